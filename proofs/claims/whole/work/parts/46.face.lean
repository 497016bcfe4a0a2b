/-! ===== the face: slots, and calls that change nothing that is seen ===== -/
abbrev zSl : Type := Nat × (Nat → Nat) × Nat × (Nat → Nat → Nat)
def zCS (I A : zF2) (q : Nat) (x : zSl) : Prop := zOR I A q x.1 x.2.1 ∧ zRR I A q x.1 x.2.2.1 x.2.2.2
def zMo (A : zF2) (s : Nat) (x : zSl) : Prop := zMR A s x.1 x.2.1 x.2.2.1 x.2.2.2
def zC3 (I A : zF2) (S : Nat → zSl) : Prop := ∀ s, s < 3 → zCS I A (2 + 5 * s) (S s)
def zM3 (A : zF2) (S : Nat → zSl) : Prop := ∀ s, s < 3 → zMo A s (S s)
/-- what may be written by calls that change nothing that is seen -/
def zScA (p : Nat) : Bool := decide ((17 ≤ p ∧ p < 22) ∨ (81 ≤ p ∧ p ≤ 97) ∨ p = 100 ∨ (103 ≤ p ∧ p ≤ 113))
def zScI (p k : Nat) : Bool := decide ((17 ≤ p ∧ p < 22) ∨ (p = 79 ∧ 1 ≤ k ∧ k ≤ 3) ∨ p = 89 ∨ (p = 98 ∧ ((8 ≤ k ∧ k ≤ 12) ∨ k = 16 ∨ k = 21 ∨ k = 23)))
def zKp (I A I' A' : zF2) : Prop := (∀ p, zScA p = false → A' p = A p) ∧ ∀ p k, zScI p k = false → I' p k = I p k
theorem zKp.refl (I A : zF2) : zKp I A I A := ⟨fun _ _ => rfl, fun _ _ _ => rfl⟩
theorem zKp.trans {I A I' A' I2 A2 : zF2} (h : zKp I A I' A') (g : zKp I' A' I2 A2) : zKp I A I2 A2 := ⟨fun p hp => (g.1 p hp).trans (h.1 p hp), fun p k hp => (g.2 p k hp).trans (h.2 p k hp)⟩
theorem zKp.a {I A I' A' : zF2} {p : Nat} {f : Nat → Int32} (h : zKp I A I' A') (hp : zScA p = true) : zKp I A I' (va_up A' p f) := ⟨fun j hj => by
  rw [zup_ne (fun e => by rw [e, hp] at hj; cases hj)]
  exact h.1 j hj, h.2⟩
theorem zKp.f {I A I' A' : zF2} {p k : Nat} {x : Int32} (h : zKp I A I' A') (hp : zScI p k = true) : zKp I A (va_up I' p (upd (I' p) k x)) A' := ⟨h.1, fun j m hj => by
  by_cases e : j = p
  · subst e
    rw [zup_eq]
    unfold upd
    rw [if_neg (fun e => by rw [e, hp] at hj; cases hj)]
    exact h.2 j m hj
  · rw [zup_ne e]
    exact h.2 j m hj⟩
theorem zKp.cs {I A I' A' : zF2} {q : Nat} {x : zSl} (h : zKp I A I' A') (hq : q ≠ 17) (H : zCS I A q x) : zCS I' A' q x := by
  obtain ⟨⟨h1, h2, h3, h4, h5⟩, h6, h7, h8⟩ := H
  have hz : ∀ r, r < 5 → zScA (q + r) = false ∧ ∀ k, zScI (q + r) k = false := fun r hr => by
    rcases h1 with ⟨s, hs, rfl⟩ | ⟨s, hs, rfl⟩
    · refine ⟨decide_eq_false (by omega), fun k => decide_eq_false (by omega)⟩
    · refine ⟨decide_eq_false (by omega), fun k => decide_eq_false (by omega)⟩
  refine ⟨⟨h1, h2, ?_, fun b hb => ?_, fun b hb => ?_⟩, h6, ?_, fun r i hr hi => ?_⟩
  · rw [h.2 q 3 ((hz 0 (by decide)).2 3)]
    exact h3
  · rw [h.1 (q + 1) (hz 1 (by decide)).1]
    exact h4 b hb
  · rw [h.1 (q + 2) (hz 2 (by decide)).1]
    exact h5 b hb
  · rw [h.2 (q + 3) 1 ((hz 3 (by decide)).2 1)]
    exact h7
  · rw [h.1 (q + 4) (hz 4 (by decide)).1]
    exact h8 r i hr hi
theorem zKp.ms {I A I' A' : zF2} {s : Nat} {x : zSl} (h : zKp I A I' A') (H : zMo A s x) : zMo A' s x := by
  unfold zMo zMR at *
  rw [h.1 99 (by decide)]
  exact H
theorem zKp.c3 {I A I' A' : zF2} {S : Nat → zSl} (h : zKp I A I' A') (H : zC3 I A S) : zC3 I' A' S := fun s hs => h.cs (by omega) (H s hs)
theorem zKp.m3 {I A I' A' : zF2} {S : Nat → zSl} (h : zKp I A I' A') (H : zM3 A S) : zM3 A' S := fun s hs => h.ms (H s hs)
theorem zKp.bc (I A : zF2) (B C : Nat → Int32) : zKp I A I (zBC A B C) := ((zKp.refl I A).a (p := 85) (by decide)).a (p := 86) (by decide)
theorem zKp.mc (I A : zF2) (x : Int32) (B C : Nat → Int32) : zKp I A (zIf I 16 x) (zMC A B C) := (((zKp.refl I A).a (p := 104) (by decide)).a (p := 105) (by decide)).f (p := 98) (by decide)
/-- what a call ends with that changes nothing that is seen -/
abbrev zQk (I A : zF2) (t : zW) (r : Int32) : Option Value → zW → Prop := fun v w1 => v = some (.int r) ∧ ∃ I' A', w1 = zWd I' A' t ∧ zKp I A I' A'
def zQy (X : zX) (M : zM) (av : List Value) (I A : zF2) (t : zW) (r : Int32) : Prop := zCall X 90 M av (zWd I A t) (zQk I A t r)
theorem zQy.mk {X : zX} {M : zM} {av : List Value} {I A : zF2} {t : zW} {r : Int32} (d1 : Nat) (hd : d1 < 90) (h : zEv X d1 0 0 M av (zWd I A t) (zQk I A t r)) : zQy X M av I A t r := ⟨d1, _, hd, h, fun _ _ q => q⟩
theorem zQy.rd {X : zX} {M : zM} {av : List Value} {I A : zF2} {t : zW} {r : Int32} (d1 : Nat) (hd : d1 < 90) (h : zRd X d1 M av (zWd I A t) r) : zQy X M av I A t r := ⟨d1, _, hd, h, fun _ _ q => ⟨q.1, I, A, q.2, zKp.refl I A⟩⟩
def zSame (X : zX) (M N : zM) (av : List Value) (S : Nat → zSl) : Prop := ∃ r, (∀ I A t, zC3 I A S → zQy X M (.ref 0 :: av) I A t r) ∧ ∀ I A t, zM3 A S → zQy X N (.ref 98 :: av) I A t r
theorem zQk.id (I A : zF2) (t : zW) (r : Int32) : zQk I A t r (some (.int r)) (zWd I A t) := ⟨rfl, I, A, rfl, zKp.refl I A⟩
theorem zQk.of {I A I' A' : zF2} {t : zW} {r : Int32} (h : zKp I A I' A') : zQk I A t r (some (.int r)) (zWd I' A' t) := ⟨rfl, I', A', rfl, h⟩
def zHas (S : Nat → zSl) (x : Int32) (s : Nat) : Prop := s < 3 ∧ x = nI s ∧ 0 < (S s).1
theorem zslot (S : Nat → zSl) (x : Int32) : (∃ s, zHas S x s) ∨ ∀ s, ¬ zHas S x s := by
  by_cases h : ∃ s, zHas S x s
  · exact Or.inl h
  · exact Or.inr (fun s hs => h ⟨s, hs⟩)
theorem zin_iff {y : Int32} {m : Nat} (hm : m < 2 ^ 31) : (¬ y < 0 ∧ ¬ nI m < y) ↔ ∃ i, i < m + 1 ∧ y = nI i := by
  constructor
  · rintro ⟨h1, h2⟩
    obtain ⟨j, hj, rfl⟩ := nI_of2 (M := nI m) (n := m) (nI_toInt hm) h1 (Int32.not_lt.mp h2)
    exact ⟨j, by omega, rfl⟩
  · rintro ⟨i, hi, rfl⟩
    exact ⟨nI_pos (by omega), by rw [zb_lt hm (by omega)]; omega⟩
theorem zhas_iff {y : Int32} {n : Nat} (hn : n < 2 ^ 31) : (¬ y < 0 ∧ ¬ nI n ≤ y) ↔ ∃ i, i < n ∧ y = nI i := by
  constructor
  · rintro ⟨h1, h2⟩
    have h3 : y ≤ nI n := Int32.le_of_lt (Int32.not_le.mp h2)
    obtain ⟨j, hj, rfl⟩ := nI_of2 (M := nI n) (n := n) (nI_toInt hn) h1 h3
    rw [zb_le hn (by omega)] at h2
    exact ⟨j, by omega, rfl⟩
  · rintro ⟨i, hi, rfl⟩
    exact ⟨nI_pos (by omega), by rw [zb_le hn (by omega)]; omega⟩
/-- x is one of 0 .. n - 1 -/
def zin (n : Nat) (x : Int32) : Bool := zany n (fun i => decide (x = nI i))
theorem zin_e {n : Nat} {x : Int32} : zin n x = true ↔ ∃ i, i < n ∧ x = nI i := by
  unfold zin
  rw [zany_iff]
  constructor
  · rintro ⟨i, h1, h2⟩
    exact ⟨i, h1, of_decide_eq_true h2⟩
  · rintro ⟨i, h1, h2⟩
    exact ⟨i, h1, decide_eq_true h2⟩
theorem zin_y {n i : Nat} (h : i < n) : zin n (nI i) = true := zin_e.mpr ⟨i, h, rfl⟩
theorem zin_h {y : Int32} {n : Nat} (hn : n < 2 ^ 31) : decide (¬ y < 0 ∧ ¬ nI n ≤ y) = zin n y := by
  rw [Bool.eq_iff_iff, decide_eq_true_eq, zhas_iff hn, zin_e]
theorem zin_i {y : Int32} {m : Nat} (hm : m < 2 ^ 31) : decide (¬ y < 0 ∧ ¬ nI m < y) = zin (m + 1) y := by
  rw [Bool.eq_iff_iff, decide_eq_true_eq, zin_iff hm, zin_e]
theorem zin_d {y : Int32} {n : Nat} : decide (∃ a, a < n ∧ y = nI a) = zin n y := by
  rw [Bool.eq_iff_iff, decide_eq_true_eq, zin_e]
/-- how a call of orderIn, orderWith .. goes on -/
theorem zvO0 {X : zX} {d d1 : Nat} {N : zM} {p ci : Nat} {av : List Value} {I A : zF2} {t : zW} {K0 : zW → Prop} {K1 : Nat → zW → Prop} (ho : zOb p ci) (h : zEv X d1 0 0 N av (zWd I A t) (fun v w1 => v = some .null ∧ w1 = zWd I A t)) (hd : d1 < d) (k : K0 (zWd I A t)) : zIs (zWd I A t) p ci ∧ zCallO X d N av (zWd I A t) K0 K1 :=
  ⟨ho.is, d1, _, hd, h, fun v w1 ⟨e1, e2⟩ => Or.inl ⟨e1, by rw [e2]; exact k⟩⟩
theorem zvO1 {X : zX} {d d1 : Nat} {N : zM} {p ci x : Nat} {av : List Value} {I A : zF2} {t : zW} {K0 : zW → Prop} {K1 : Nat → zW → Prop} (ho : zOb p ci) (h : zRf X d1 N av (zWd I A t) x) (hd : d1 < d) (k : K1 x (zWd I A t)) : zIs (zWd I A t) p ci ∧ zCallO X d N av (zWd I A t) K0 K1 :=
  ⟨ho.is, d1, _, hd, h, fun v w1 ⟨e1, e2⟩ => Or.inr ⟨x, e1, by rw [e2]; exact k⟩⟩
abbrev zNl (X : zX) (d : Nat) (M : zM) (av : List Value) (w : zW) : Prop := zEv X d 0 0 M av w (fun v w1 => v = some .null ∧ w1 = w)
theorem zvR2 {X : zX} {d d1 : Nat} {N : zM} {p ci x : Nat} {av : List Value} {I A : zF2} {t : zW} {P : zW → Prop} {K : Nat → zW → Prop} (ho : zOb p ci) (h : zEv X d1 0 0 N av (zWd I A t) (fun v w1 => v = some (.ref x) ∧ P w1)) (hd : d1 < d) (k : ∀ w1, P w1 → K x w1) : zIs (zWd I A t) p ci ∧ zCallR X d N av (zWd I A t) K :=
  ⟨ho.is, d1, _, hd, h, fun v w1 ⟨e1, e2⟩ => ⟨x, e1, k w1 e2⟩⟩
theorem zvV {X : zX} {d d1 : Nat} {N : zM} {p ci : Nat} {av : List Value} {I A : zF2} {t : zW} {P : zW → Prop} {K : zW → Prop} (ho : zOb p ci) (h : zEv X d1 0 0 N av (zWd I A t) (fun v w1 => v = none ∧ P w1)) (hd : d1 < d) (k : ∀ w1, P w1 → K w1) : zIs (zWd I A t) p ci ∧ zCallV X d N av (zWd I A t) K := ⟨ho.is, zcV h hd k⟩
theorem zvI2 {X : zX} {d d1 : Nat} {N : zM} {p ci : Nat} {av : List Value} {I A : zF2} {t : zW} {P : Int32 → zW → Prop} {K : Int32 → zW → Prop} (ho : zOb p ci) (h : zEv X d1 0 0 N av (zWd I A t) (fun v w1 => ∃ x, v = some (.int x) ∧ P x w1)) (hd : d1 < d) (k : ∀ x w1, P x w1 → K x w1) : zIs (zWd I A t) p ci ∧ zCallI X d N av (zWd I A t) K := ⟨ho.is, zcI2 h hd k⟩
section ZFa
variable {X : zX} {I A : zF2} {t w : zW} {S : Nat → zSl} {x y : Int32} {s : Nat}
theorem v_isSlot (x : Int32) : zRd X 0 MX11_isSlot [.int x] w (zB (zin 3 x)) := by
  refine eX11_isSlot _ (bX11_isSlot_0 _ ?_)
  rw [← zin_h (y := x) (n := 3) (by decide)]
  by_cases h1 : x < 0
  · rw [if_pos h1]
    exact ⟨by simp [zB, h1], rfl⟩
  · rw [if_neg h1]
    by_cases h2 : nI 3 ≤ x
    · rw [if_pos (show (3 : Int32) ≤ x from h2)]
      exact ⟨by simp [zB, h2], rfl⟩
    · rw [if_neg (show ¬ (3 : Int32) ≤ x from h2)]
      exact ⟨by simp [zB, h1, h2], rfl⟩
theorem v_isBit (x : Int32) : zRd X 0 MX11_isBit [.int x] w (zB (zin 2 x)) := by
  refine eX11_isBit _ (bX11_isBit_0 _ ?_)
  by_cases h1 : x = 0
  · rw [if_pos h1]
    refine bX11_isBit_9 ⟨?_, rfl⟩
    rw [zin_e.mpr ⟨0, by decide, h1⟩]
    rfl
  · rw [if_neg h1]
    by_cases h2 : x = 1
    · rw [if_pos h2]
      refine bX11_isBit_9 ⟨?_, rfl⟩
      rw [zin_e.mpr ⟨1, by decide, h2⟩]
      rfl
    · rw [if_neg h2]
      refine ⟨?_, rfl⟩
      cases hz : zin 2 x
      · rfl
      · obtain ⟨i, hi, e⟩ := zin_e.mp hz
        rcases (show i = 0 ∨ i = 1 by omega) with rfl | rfl
        · exact absurd e h1
        · exact absurd e h2
theorem v_bit (b : Bool) : zRd X 0 MX11_bit [.int (zB b)] w (zB b) := by
  refine eX11_bit _ (bX11_bit_0 _ ?_)
  cases b
  · exact ⟨rfl, rfl⟩
  · exact ⟨rfl, rfl⟩
theorem v_orderIn0 (hC : zC3 I A S) (hn : ∀ s, ¬ zHas S x s) : zNl X 1 MX11_orderIn [.ref 0, .int x] (zWd I A t) := by
  refine eX11_orderIn _ _ (bX11_orderIn_0 _ _ (zcRd (v_isSlot x) (by decide) ?_))
  rw [zB_if]
  by_cases h : zin 3 x = true
  · rw [if_pos h]
    obtain ⟨s, hs, rfl⟩ := zin_e.mp h
    have h0 := (hC s hs).1
    refine ⟨_, fr_0_0.rd, _, zRs hs, zvRd h0.1.ob (v_size h0) (by decide) ?_⟩
    have : (S s).1 = 0 := by
      rcases Nat.eq_zero_or_pos (S s).1 with q | q
      · exact q
      · exact absurd ⟨hs, rfl, q⟩ (hn s)
    rw [this, if_pos (show nI 0 = 0 from rfl)]
    exact ⟨rfl, rfl⟩
  · rw [if_neg h]
    exact ⟨rfl, rfl⟩
theorem v_orderIn1 (hC : zC3 I A S) (hs : zHas S x s) : zRf X 1 MX11_orderIn [.ref 0, .int x] (zWd I A t) (2 + 5 * s) := by
  obtain ⟨h1, rfl, h3⟩ := hs
  have h0 := (hC s h1).1
  have h8 := h0.n8
  refine eX11_orderIn _ _ (bX11_orderIn_0 _ _ (zcRd (v_isSlot _) (by decide) ?_))
  rw [zB_if, if_pos (zin_y h1)]
  refine ⟨_, fr_0_0.rd, _, zRs h1, zvRd h0.1.ob (v_size h0) (by decide) ?_⟩
  rw [zi_0 (by omega), if_neg (by omega)]
  exact ⟨_, fr_0_0.rd, _, zRs h1, rfl, rfl⟩
theorem v_orderWith0 (hC : zC3 I A S) (hn : ∀ s, ¬ zHas S x s) : zNl X 2 MX11_orderWith [.ref 0, .int x, .int y] (zWd I A t) := eX11_orderWith _ _ _ (bX11_orderWith_0 _ _ _ (zvO0 ob_0 (v_orderIn0 hC hn) (by decide) (bX11_orderWith_18 ⟨rfl, rfl⟩)))
theorem v_orderWith1 (hC : zC3 I A S) (hs : zHas S x s) (hy : zin (S s).1 y = false) : zNl X 2 MX11_orderWith [.ref 0, .int x, .int y] (zWd I A t) := by
  have h0 := (hC s hs.1).1
  have h8 := h0.n8
  refine eX11_orderWith _ _ _ (bX11_orderWith_0 _ _ _ (zvO1 ob_0 (v_orderIn1 hC hs) (by decide) (zvRd h0.1.ob (v_has h0 y) (by decide) ?_)))
  rw [zin_h (by omega), zB_if, hy, if_neg (by decide)]
  exact bX11_orderWith_18 ⟨rfl, rfl⟩
theorem v_orderWith2 (hC : zC3 I A S) (hs : zHas S x s) {a : Nat} (ha : a < (S s).1) : zRf X 2 MX11_orderWith [.ref 0, .int x, .int (nI a)] (zWd I A t) (2 + 5 * s) := by
  have h0 := (hC s hs.1).1
  have h8 := h0.n8
  refine eX11_orderWith _ _ _ (bX11_orderWith_0 _ _ _ (zvO1 ob_0 (v_orderIn1 hC hs) (by decide) (zvRd h0.1.ob (v_hasN h0 (by omega)) (by decide) ?_)))
  rw [zB_ifP, if_pos ha]
  exact ⟨rfl, rfl⟩
theorem v_rhas {q n R : Nat} {h : Nat → Nat → Nat} (hq : zOq q) (H : zRR I A q n R h) (y : Int32) : zRd X 0 MX8_has [.ref (q + 3), .int y] (zWd I A t) (zB (zin R y)) := by
  have h6 := H.1.1
  rw [← zin_h (y := y) (n := R) (by omega)]
  refine eX8_has _ _ (bX8_has_0 _ _ ?_)
  by_cases h1 : y < 0
  · rw [if_pos h1]
    exact ⟨by simp [zB, h1], rfl⟩
  · rw [if_neg h1]
    refine ⟨_, hq.rsz.rd, ?_⟩
    rw [H.2.1]
    by_cases h2 : nI R ≤ y
    · rw [if_pos h2]
      exact ⟨by simp [zB, h2], rfl⟩
    · rw [if_neg h2]
      exact ⟨by simp [zB, h1, h2], rfl⟩
theorem v_orderWithRow0 (hC : zC3 I A S) (hn : ∀ s, ¬ zHas S x s) : zNl X 2 MX11_orderWithRow [.ref 0, .int x, .int y] (zWd I A t) := eX11_orderWithRow _ _ _ (bX11_orderWithRow_0 _ _ _ (zvO0 ob_0 (v_orderIn0 hC hn) (by decide) (bX11_orderWithRow_21 ⟨rfl, rfl⟩)))
theorem v_orderWithRow1 (hC : zC3 I A S) (hs : zHas S x s) (hy : zin (S s).2.2.1 y = false) : zNl X 2 MX11_orderWithRow [.ref 0, .int x, .int y] (zWd I A t) := by
  have h0 := hC s hs.1
  refine eX11_orderWithRow _ _ _ (bX11_orderWithRow_0 _ _ _ (zvO1 ob_0 (v_orderIn1 hC hs) (by decide) (zvRf h0.1.1.ob (v_rowsOf h0.1.1) (by decide) (zvRd h0.1.1.rob (v_rhas h0.1.1 h0.2 y) (by decide) ?_))))
  rw [zB_if, hy, if_neg (by decide)]
  exact bX11_orderWithRow_21 ⟨rfl, rfl⟩
theorem v_orderWithRow2 (hC : zC3 I A S) (hs : zHas S x s) {a : Nat} (ha : a < (S s).2.2.1) : zRf X 2 MX11_orderWithRow [.ref 0, .int x, .int (nI a)] (zWd I A t) (2 + 5 * s) := by
  have h0 := hC s hs.1
  refine eX11_orderWithRow _ _ _ (bX11_orderWithRow_0 _ _ _ (zvO1 ob_0 (v_orderIn1 hC hs) (by decide) (zvRf h0.1.1.ob (v_rowsOf h0.1.1) (by decide) (zvRd h0.1.1.rob (v_rhas h0.1.1 h0.2 (nI a)) (by decide) ?_))))
  rw [zB_if, if_pos (zin_y ha)]
  exact ⟨rfl, rfl⟩
theorem v_linesOf {q n : Nat} {u : Nat → Nat} (h : zOR I A q n u) : zEv X 3 0 0 MX11_linesOf [.ref 0, .ref q] (zWd I A t) (fun v w1 => v = some (.ref 84) ∧ ∃ B C, w1 = zWd I (zBC A B C) t ∧ zLn (zBC A B C) n u) := by
  refine eX11_linesOf _ _ (bX11_linesOf_0 _ _ ⟨_, fr_0_7.rd, zvV ob_84 (v_fill h) (by decide) ?_⟩)
  rintro w1 ⟨B, C, rfl, hL⟩
  exact ⟨_, fr_0_7.rd, rfl, B, C, rfl, hL⟩
/- the reference -/
theorem m_ord0 (hM : zM3 A S) (hn : ∀ s, ¬ zHas S x s) : zRd X 2 MX12_isOrder [.ref 98, .int x] (zWd I A t) 0 := by
  by_cases h : ∃ s, s < 3 ∧ x = nI s
  · obtain ⟨s, hs, rfl⟩ := h
    have h1 := m_isOrderS (X := X) (I := I) (t := t) (hM s hs)
    rw [decide_eq_false (fun q => hn s ⟨hs, rfl, q⟩)] at h1
    exact h1
  · exact m_isOrderN h
theorem m_ord1 (hM : zM3 A S) (hs : zHas S x s) : zRd X 2 MX12_isOrder [.ref 98, .int x] (zWd I A t) 1 := by
  obtain ⟨h1, rfl, h3⟩ := hs
  have h2 := m_isOrderS (X := X) (I := I) (t := t) (hM s h1)
  rw [decide_eq_true h3] at h2
  exact h2
theorem m_inN {n : Nat} (y : Int32) (h0 : 0 < n) (hn : n < 2 ^ 31) : zRd X 0 MX12_in [.long y.toInt64, .long 0, .long (nI n - 1 : Int32).toInt64] w (zB (zin n y)) := by
  have h1 := m_in0 (X := X) (w := w) y (m := n - 1) (by omega)
  rw [zin_i (by omega), Nat.sub_add_cancel h0, ← pk_sub (show 1 ≤ n from h0)] at h1
  exact h1
theorem m_inC {m : Nat} {c : Int64} (y : Int32) (hc : c = (nI m).toInt64) (hm : m < 2 ^ 31) : zRd X 0 MX12_in [.long y.toInt64, .long 0, .long c] w (zB (zin (m + 1) y)) := by
  have h1 := m_in0 (X := X) (w := w) y (m := m) hm
  rw [zin_i hm, ← hc] at h1
  exact h1
theorem m_thing0 (hM : zM3 A S) (hn : ∀ s, ¬ zHas S x s) : zRd X 3 MX12_isThing [.ref 98, .int x, .int y] (zWd I A t) 0 := by
  refine eX12_isThing _ _ _ (bX12_isThing_0 _ _ _ (zvRd ob_98 (m_ord0 hM hn) (by decide) ?_))
  rw [if_pos rfl]
  exact ⟨rfl, rfl⟩
theorem m_thing1 (hM : zM3 A S) (hs : zHas S x s) : zRd X 3 MX12_isThing [.ref 98, .int x, .int y] (zWd I A t) (zB (zin (S s).1 y)) := by
  obtain ⟨h1, rfl, h3⟩ := hs
  have h4 := m_isThingS (X := X) (I := I) (t := t) (hM s h1) y
  rw [zin_d] at h4
  exact h4
theorem m_row0 (hM : zM3 A S) (hn : ∀ s, ¬ zHas S x s) : zRd X 3 MX12_isRow [.ref 98, .int x, .int y] (zWd I A t) 0 := by
  refine eX12_isRow _ _ _ (bX12_isRow_0 _ _ _ (zvRd ob_98 (m_ord0 hM hn) (by decide) ?_))
  rw [if_pos rfl]
  exact ⟨rfl, rfl⟩
theorem m_row1 (hM : zM3 A S) (hs : zHas S x s) : zRd X 3 MX12_isRow [.ref 98, .int x, .int y] (zWd I A t) (zB (zin (S s).2.2.1 y)) := by
  have h0 := m_ord1 (X := X) (I := I) (t := t) hM hs
  obtain ⟨h1, rfl, h3⟩ := hs
  have h6 := (hM s h1).2.2.1.1
  refine eX12_isRow _ _ _ (bX12_isRow_0 _ _ _ (zvRd ob_98 h0 (by decide) ?_))
  rw [if_neg (by decide)]
  refine zvRd ob_98 (m_rows (hM s h1)) (by decide) ?_
  rcases Nat.eq_zero_or_pos (S s).2.2.1 with q | q
  · rw [q]
    have h4 := m_in (X := X) (w := zWd I A t) y.toInt64 (0 : Int32).toInt64 (nI 0 - 1 : Int32).toInt64
    refine zcRd h4 (by decide) ?_
    rw [zB_ifP, if_neg]
    · refine ⟨?_, rfl⟩
      cases hz : zin 0 y
      · rfl
      · obtain ⟨a, ha, -⟩ := zin_e.mp hz
        exact absurd ha (Nat.not_lt_zero _)
    · rw [wide_lt, wide_lt]
      rintro ⟨h5, h7⟩
      have h8 := Int32.not_lt.mp h5
      have h9 := Int32.not_lt.mp h7
      have := Int32.le_trans h8 h9
      exact absurd this (by decide)
  · refine zcRd (m_inN y q (by omega)) (by decide) ?_
    rw [zB_if]
    by_cases hy : zin (S s).2.2.1 y = true
    · rw [if_pos hy, hy]
      exact ⟨rfl, rfl⟩
    · rw [if_neg hy]
      rw [Bool.not_eq_true] at hy
      rw [hy]
      exact ⟨rfl, rfl⟩
end ZFa
