/-! ===== the state as it is seen; the class's slots, its past ===== -/
def zVl (x : zSl) : Prop := zPo x.1 x.2.1 ∧ zHo x.1 x.2.2.1 x.2.2.2 ∧ (x.1 = 0 → x.2.2.1 = 0)
/-- whether two orders are one -/
def zqe (x y : zSl) : Bool := decide (x.1 = y.1) && (zall x.1 (fun b => decide (x.2.1 b = y.2.1 b)) && (decide (x.2.2.1 = y.2.2.1) && zall x.2.2.1 (fun r => zsr x.1 (x.2.2.2 r) (y.2.2.2 r))))
theorem zVl_ext {x y : zSl} (hx : zVl x) (hy : zVl y) (h1 : x.1 = y.1) (h2 : ∀ b, b < x.1 → x.2.1 b = y.2.1 b) (h3 : x.2.2.1 = y.2.2.1) (h4 : ∀ r i, r < x.2.2.1 → i < x.1 → x.2.2.2 r i = y.2.2.2 r i) : x = y := by
  obtain ⟨n, u, R, h⟩ := x
  obtain ⟨n', u', R', h'⟩ := y
  simp only [] at h1 h2 h3 h4
  subst h1
  subst h3
  have e1 : u = u' := funext (fun b => by
    rcases Nat.lt_or_ge b n with q | q
    · exact h2 b q
    · exact (hx.1.2.2.1 b q).trans (hy.1.2.2.1 b q).symm)
  have e2 : h = h' := funext (fun r => funext (fun i => by
    by_cases c : r < R ∧ i < n
    · exact h4 r i c.1 c.2
    · exact (hx.2.1.2.2.2 r i (by simp only []; omega)).trans (hy.2.1.2.2.2 r i (by simp only []; omega)).symm))
  rw [e1, e2]
theorem zqe_iff {x y : zSl} (hx : zVl x) (hy : zVl y) : zqe x y = true ↔ x = y := by
  unfold zqe
  constructor
  · intro h
    simp only [Bool.and_eq_true, decide_eq_true_eq, zall_iff] at h
    obtain ⟨h1, h2, h3, h4⟩ := h
    exact zVl_ext hx hy h1 h2 h3 (fun r i hr hi => of_decide_eq_true (zall_iff.mp (h4 r hr) i hi))
  · rintro rfl
    simp only [Bool.and_eq_true, decide_eq_true_eq, zall_iff]
    exact ⟨trivial, fun _ _ => trivial, trivial, fun r _ => zall_iff.mpr (fun i _ => decide_eq_true rfl)⟩
/-- only the order at q differs -/
def zOn (q : Nat) (I A I' A' : zF2) : Prop := ∀ p, (p < q ∨ q + 5 ≤ p) → A' p = A p ∧ I' p = I p
theorem zOn.refl (q : Nat) (I A : zF2) : zOn q I A I A := fun _ _ => ⟨rfl, rfl⟩
theorem zOn.trans {q : Nat} {I A I' A' I2 A2 : zF2} (h : zOn q I A I' A') (g : zOn q I' A' I2 A2) : zOn q I A I2 A2 := fun p hp => ⟨(g p hp).1.trans (h p hp).1, (g p hp).2.trans (h p hp).2⟩
theorem zOn.a {q : Nat} {I A I' A' : zF2} {p : Nat} {f : Nat → Int32} (h : zOn q I A I' A') (hp : q ≤ p ∧ p < q + 5) : zOn q I A I' (va_up A' p f) := fun j hj => ⟨by rw [zup_ne (by omega)]; exact (h j hj).1, (h j hj).2⟩
theorem zOn.f {q : Nat} {I A I' A' : zF2} {p : Nat} {f : Nat → Int32} (h : zOn q I A I' A') (hp : q ≤ p ∧ p < q + 5) : zOn q I A (va_up I' p f) A' := fun j hj => ⟨(h j hj).1, by rw [zup_ne (by omega)]; exact (h j hj).2⟩
theorem zOq.apart {q q' : Nat} (h : zOq q) (h' : zOq q') (hne : q ≠ q') : q + 5 ≤ q' ∨ q' + 5 ≤ q := by
  rcases h with ⟨s, hs, rfl⟩ | ⟨s, hs, rfl⟩ <;> rcases h' with ⟨s', hs', rfl⟩ | ⟨s', hs', rfl⟩ <;> omega
theorem zCS.same {I A I' A' : zF2} {q : Nat} {x : zSl} (H : zCS I A q x) (h : ∀ r, r < 5 → A' (q + r) = A (q + r) ∧ I' (q + r) = I (q + r)) : zCS I' A' q x := by
  obtain ⟨⟨h1, h2, h3, h4, h5⟩, h6, h7, h8⟩ := H
  have g0 := h 0 (by decide)
  have g1 := h 1 (by decide)
  have g2 := h 2 (by decide)
  have g3 := h 3 (by decide)
  have g4 := h 4 (by decide)
  rw [Nat.add_zero] at g0
  refine ⟨⟨h1, h2, by rw [g0.2]; exact h3, fun b hb => by rw [g1.1]; exact h4 b hb, fun b hb => by rw [g2.1]; exact h5 b hb⟩, h6, by rw [g3.2]; exact h7, fun r i hr hi => by rw [g4.1]; exact h8 r i hr hi⟩
theorem zOn.cs {q q' : Nat} {I A I' A' : zF2} {x : zSl} (h : zOn q I A I' A') (hq : zOq q) (hne : q ≠ q') (H : zCS I A q' x) : zCS I' A' q' x := by
  have ha := hq.apart H.1.1 hne
  exact H.same (fun r hr => h _ (by omega))
theorem zOn.kp {I A I' A' : zF2} (h : zOn 17 I A I' A') : zKp I A I' A' := ⟨fun p hp => (h p (by
    have := of_decide_eq_false hp
    omega)).1, fun p k hp => by
    have := of_decide_eq_false hp
    rw [(h p (by omega)).2]⟩
abbrev zBy : Type := Nat × (Nat → Nat)
/-- slots; states that can be come back to, the latest first; tape; out; fault and its place -/
abbrev zSt : Type := (Nat → zSl) × List (Nat → zSl) × zBy × zBy × Int32 × Int32
def zix (hd j : Nat) : Nat := (hd + 9 - j) % 10
def zRg (I A : zF2) (hd : Nat) : Nat → (Nat → zSl) → List (Nat → zSl) → Prop
  | _, _, [] => True
  | j, S, H :: L => (∃ s x, s < 3 ∧ H = va_up S s x ∧ zVl x ∧ A 24 (zix hd j) = nI s ∧ zCS I A (25 + 5 * zix hd j) x) ∧ zRg I A hd (j + 1) H L
theorem zix_lt (hd j : Nat) : zix hd j < 10 := Nat.mod_lt _ (by decide)
theorem zRg.same {I A I' A' : zF2} {hd : Nat} : ∀ {L : List (Nat → zSl)} {j : Nat} {S : Nat → zSl}, (∀ i, j ≤ i → i < j + L.length → A' 24 (zix hd i) = A 24 (zix hd i) ∧ ∀ x, zCS I A (25 + 5 * zix hd i) x → zCS I' A' (25 + 5 * zix hd i) x) → zRg I A hd j S L → zRg I' A' hd j S L
  | [], _, _, _, _ => trivial
  | H :: L, j, S, h, ⟨⟨s, x, h1, h2, h3, h4, h5⟩, g⟩ => by
    simp only [List.length_cons] at h
    refine ⟨⟨s, x, h1, h2, h3, by rw [(h j (Nat.le_refl _) (by omega)).1]; exact h4, (h j (Nat.le_refl _) (by omega)).2 x h5⟩, zRg.same (fun i hi hi2 => h i (by omega) (by omega)) g⟩
def zPa (I A : zF2) (S : Nat → zSl) (L : List (Nat → zSl)) : Prop := L.length ≤ 10 ∧ I 22 3 = nI L.length ∧ ∃ hd, hd < 10 ∧ I 22 2 = nI hd ∧ zRg I A hd 0 S L
def zTp (I A : zF2) (p a cap : Nat) (b : zBy) : Prop := b.1 ≤ cap ∧ I p 1 = nI b.1 ∧ ∀ i, i < b.1 → A a i = nI (b.2 i) ∧ b.2 i < 256
def zCI (st : zSt) (I A : zF2) : Prop := zC3 I A st.1 ∧ (∀ s, s < 3 → zVl (st.1 s)) ∧ zPa I A st.1 st.2.1 ∧ zTp I A 75 76 400 st.2.2.1 ∧ zTp I A 77 78 160 st.2.2.2.1 ∧ I 79 4 = st.2.2.2.2.1 ∧ I 79 5 = st.2.2.2.2.2
theorem zKp.ring {I A I' A' : zF2} {hd j : Nat} {S : Nat → zSl} {L : List (Nat → zSl)} (h : zKp I A I' A') (g : zRg I A hd j S L) : zRg I' A' hd j S L := zRg.same (fun i _ _ => ⟨by rw [h.1 24 (by decide)], fun x hx => h.cs (by omega) hx⟩) g
theorem zKp.ci {I A I' A' : zF2} {st : zSt} (h : zKp I A I' A') (H : zCI st I A) : zCI st I' A' := by
  obtain ⟨h1, h2, ⟨p1, p2, hd, p3, p4, p5⟩, ⟨t1, t2, t3⟩, ⟨o1, o2, o3⟩, f1, f2⟩ := H
  refine ⟨h.c3 h1, h2, ⟨p1, by rw [h.2 22 3 (by decide)]; exact p2, hd, p3, by rw [h.2 22 2 (by decide)]; exact p4, h.ring p5⟩, ⟨t1, by rw [h.2 75 1 (by decide)]; exact t2, fun i hi => by rw [h.1 76 (by decide)]; exact t3 i hi⟩, ⟨o1, by rw [h.2 77 1 (by decide)]; exact o2, fun i hi => by rw [h.1 78 (by decide)]; exact o3 i hi⟩, by rw [h.2 79 4 (by decide)]; exact f1, by rw [h.2 79 5 (by decide)]; exact f2⟩
/-- the model's cells: of a slot, of all -/
def zEn (x : zSl) (k : Nat) : Nat := if k = 0 then x.1 else if k < 9 then x.2.1 (k - 1) else if k = 9 then x.2.2.1 else x.2.2.2 ((k - 10) / 8) ((k - 10) % 8)
def zEs (S : Nat → zSl) (k : Nat) : Nat := zEn (S (k / 58)) (k % 58)
def zMX (L : List (Nat → zSl)) (tp ou : zBy) (f1 f2 : Int32) (I A : zF2) : Prop :=
  (L.length ≤ 10 ∧ I 98 3 = nI L.length ∧ ∀ j H, L[j]? = some H → (∀ k, k < 174 → A 101 (174 * (L.length - 1 - j) + k) = nI (zEs H k)) ∧ ∀ s, s < 3 → zVl (H s)) ∧
  (tp.1 ≤ 400 ∧ I 98 5 = nI tp.1 ∧ ∀ i, i < tp.1 → A 102 i = nI (tp.2 i) ∧ tp.2 i < 256) ∧ (ou.1 ≤ 160 ∧ I 98 28 = nI ou.1 ∧ ∀ i, i < ou.1 → A 114 i = nI (ou.2 i) ∧ ou.2 i < 256) ∧ I 98 6 = f1 ∧ I 98 7 = f2
def zSg (A : zF2) (G : Nat → Nat) : Prop := ∀ k, k < 174 → A 99 k = nI (G k)
def zMIv (st : zSt) (I A : zF2) : Prop := zSg A (zEs st.1) ∧ (∀ s, s < 3 → zVl (st.1 s)) ∧ zMX st.2.1 st.2.2.1 st.2.2.2.1 st.2.2.2.2.1 st.2.2.2.2.2 I A
theorem zMX.same {L : List (Nat → zSl)} {tp ou : zBy} {f1 f2 : Int32} {I A I' A' : zF2} (H : zMX L tp ou f1 f2 I A) (h : ∀ p, (p = 101 ∨ p = 102 ∨ p = 114) → A' p = A p) (g : ∀ k, (k = 3 ∨ k = 5 ∨ k = 28 ∨ k = 6 ∨ k = 7) → I' 98 k = I 98 k) : zMX L tp ou f1 f2 I' A' := by
  obtain ⟨⟨a1, a2, a3⟩, ⟨b1, b2, b3⟩, ⟨c1, c2, c3⟩, d1, d2⟩ := H
  refine ⟨⟨a1, by rw [g 3 (by omega)]; exact a2, fun j H hj => by rw [h 101 (by omega)]; exact a3 j H hj⟩, ⟨b1, by rw [g 5 (by omega)]; exact b2, fun i hi => by rw [h 102 (by omega)]; exact b3 i hi⟩, ⟨c1, by rw [g 28 (by omega)]; exact c2, fun i hi => by rw [h 114 (by omega)]; exact c3 i hi⟩, by rw [g 6 (by omega)]; exact d1, by rw [g 7 (by omega)]; exact d2⟩
theorem zKp.mi {I A I' A' : zF2} {st : zSt} (h : zKp I A I' A') (H : zMIv st I A) : zMIv st I' A' := by
  obtain ⟨h1, h2, h3⟩ := H
  refine ⟨fun k hk => by rw [h.1 99 (by decide)]; exact h1 k hk, h2, h3.same (fun p hp => h.1 p ?_) (fun k hk => h.2 98 k ?_)⟩
  · rcases hp with rfl | rfl | rfl <;> decide
  · rcases hk with rfl | rfl | rfl | rfl | rfl <;> decide
/-- what is below 98 (the class), from 98 on (the model) stays -/
def zLoE (I A I' A' : zF2) : Prop := ∀ p, p < 98 → A' p = A p ∧ I' p = I p
def zHiE (I A I' A' : zF2) : Prop := ∀ p, 98 ≤ p → A' p = A p ∧ I' p = I p
theorem zLoE.refl (I A : zF2) : zLoE I A I A := fun _ _ => ⟨rfl, rfl⟩
theorem zHiE.refl (I A : zF2) : zHiE I A I A := fun _ _ => ⟨rfl, rfl⟩
theorem zLoE.trans {I A I' A' I2 A2 : zF2} (h : zLoE I A I' A') (g : zLoE I' A' I2 A2) : zLoE I A I2 A2 := fun p hp => ⟨(g p hp).1.trans (h p hp).1, (g p hp).2.trans (h p hp).2⟩
theorem zHiE.trans {I A I' A' I2 A2 : zF2} (h : zHiE I A I' A') (g : zHiE I' A' I2 A2) : zHiE I A I2 A2 := fun p hp => ⟨(g p hp).1.trans (h p hp).1, (g p hp).2.trans (h p hp).2⟩
theorem zLoE.a {I A I' A' : zF2} {p : Nat} {f : Nat → Int32} (h : zLoE I A I' A') (hp : 98 ≤ p) : zLoE I A I' (va_up A' p f) := fun j hj => ⟨by rw [zup_ne (by omega)]; exact (h j hj).1, (h j hj).2⟩
theorem zLoE.f {I A I' A' : zF2} {p : Nat} {f : Nat → Int32} (h : zLoE I A I' A') (hp : 98 ≤ p) : zLoE I A (va_up I' p f) A' := fun j hj => ⟨(h j hj).1, by rw [zup_ne (by omega)]; exact (h j hj).2⟩
theorem zHiE.a {I A I' A' : zF2} {p : Nat} {f : Nat → Int32} (h : zHiE I A I' A') (hp : p < 98) : zHiE I A I' (va_up A' p f) := fun j hj => ⟨by rw [zup_ne (by omega)]; exact (h j hj).1, (h j hj).2⟩
theorem zHiE.f {I A I' A' : zF2} {p : Nat} {f : Nat → Int32} (h : zHiE I A I' A') (hp : p < 98) : zHiE I A (va_up I' p f) A' := fun j hj => ⟨(h j hj).1, by rw [zup_ne (by omega)]; exact (h j hj).2⟩
theorem zOn.hi {q : Nat} {I A I' A' : zF2} (h : zOn q I A I' A') (hq : zOq q) : zHiE I A I' A' := fun p hp => h p (by
  rcases hq with ⟨s, hs, rfl⟩ | ⟨s, hs, rfl⟩ <;> omega)
theorem zLoE.ci {I A I' A' : zF2} {st : zSt} (h : zLoE I A I' A') (H : zCI st I A) : zCI st I' A' := by
  obtain ⟨h1, h2, ⟨p1, p2, hd, p3, p4, p5⟩, ⟨t1, t2, t3⟩, ⟨o1, o2, o3⟩, f1, f2⟩ := H
  have cs : ∀ q x, zCS I A q x → q + 5 ≤ 98 → zCS I' A' q x := fun q x hx hq => hx.same (fun r hr => h _ (by omega))
  refine ⟨fun s hs => cs _ _ (h1 s hs) (by omega), h2, ⟨p1, by rw [(h 22 (by decide)).2]; exact p2, hd, p3, by rw [(h 22 (by decide)).2]; exact p4, zRg.same (fun i _ _ => ⟨by rw [(h 24 (by decide)).1], fun x hx => cs _ _ hx (by have := zix_lt hd i; omega)⟩) p5⟩, ⟨t1, by rw [(h 75 (by decide)).2]; exact t2, fun i hi => by rw [(h 76 (by decide)).1]; exact t3 i hi⟩, ⟨o1, by rw [(h 77 (by decide)).2]; exact o2, fun i hi => by rw [(h 78 (by decide)).1]; exact o3 i hi⟩, by rw [(h 79 (by decide)).2]; exact f1, by rw [(h 79 (by decide)).2]; exact f2⟩
theorem zHiE.mi {I A I' A' : zF2} {st : zSt} (h : zHiE I A I' A') (H : zMIv st I A) : zMIv st I' A' := by
  obtain ⟨h1, h2, h3⟩ := H
  exact ⟨fun k hk => by rw [(h 99 (by decide)).1]; exact h1 k hk, h2, h3.same (fun p hp => (h p (by omega)).1) (fun k _ => by rw [(h 98 (by decide)).2])⟩
theorem zMIv.m3 {st : zSt} {I A : zF2} (H : zMIv st I A) : zM3 A st.1 := fun s hs => by
  obtain ⟨h1, h2, -⟩ := H
  have hv := h2 s hs
  have g : ∀ k, k < 58 → A 99 (58 * s + k) = nI (zEn (st.1 s) k) := fun k hk => by
    rw [h1 _ (by omega)]
    unfold zEs
    rw [show (58 * s + k) / 58 = s by omega, show (58 * s + k) % 58 = k by omega]
  refine ⟨hs, hv.1, hv.2.1, ?_, fun b hb => ?_, ?_, fun r i hr hi => ?_⟩
  · have := g 0 (by decide)
    exact this
  · have := g (1 + b) (by omega)
    rw [← Nat.add_assoc] at this
    rw [this]
    unfold zEn
    rw [if_neg (by omega), if_pos (by omega), show 1 + b - 1 = b by omega]
  · have := g 9 (by decide)
    exact this
  · have := g (10 + 8 * r + i) (by omega)
    rw [show 58 * s + (10 + 8 * r + i) = 58 * s + 10 + 8 * r + i by omega] at this
    rw [this]
    unfold zEn
    rw [if_neg (by omega), if_neg (by omega), if_neg (by omega), show (10 + 8 * r + i - 10) / 8 = r by omega, show (10 + 8 * r + i - 10) % 8 = i by omega]
/-- an act: slot s becomes y -/
def zPu (st : zSt) (s : Nat) (y : zSl) : zSt := (va_up st.1 s y, (st.1 :: st.2.1).take 10, st.2.2)
section ZSt
variable {X : zX} {I A : zF2} {t : zW} {q q2 : Nat} {x y : zSl}
theorem v_rowsCopy (hq : zOq q) (hq2 : zOq q2) : zEv X 1 0 0 MX8_copyFrom [.ref (q + 3), .ref (q2 + 3)] (zWd I A t) (fun v w1 => v = none ∧ w1 = zWd (va_up I (q + 3) (upd (I (q + 3)) 1 (I (q2 + 3) 1))) (va_up A (q + 4) (va_cpy (A (q2 + 4)) (A (q + 4)) 0 0 48)) t) := by
  refine eX8_copyFrom _ _ (bX8_copyFrom_0 _ _ ⟨_, hq2.rsz.rd, _, hq.rsz.wr, _, hq2.rh.rd, _, hq.rh.rd, _, hq.rh.rd, _, hq.hA.len, by decide, zWd (va_up I (q + 3) (upd (I (q + 3)) 1 (I (q2 + 3) 1))) (va_up A (q + 4) (va_cpy (A (q2 + 4)) (A (q + 4)) 0 0 48)) t, ?_, rfl, rfl⟩)
  show zcp _ _ (nI 0) _ (nI 0) (nI 48) = _
  exact hq2.hA.cp hq.hA (by decide) (by decide)
theorem zcpy_lt (f g : Nat → Int32) (n i : Nat) (hi : i < n) : va_cpy f g 0 0 n i = f i := by
  unfold va_cpy
  simp [hi]
theorem v_copyFrom (hq : zOq q) (hne : q ≠ q2) (H : zCS I A q2 x) : zEv X 2 0 0 MX5_copyFrom [.ref q, .ref q2] (zWd I A t) (fun v w1 => v = none ∧ ∃ I' A', w1 = zWd I' A' t ∧ zCS I' A' q x ∧ zOn q I A I' A') := by
  have hq2 := H.1.1
  have hap := hq.apart hq2 hne
  have h8 := H.1.n8
  have h6 := H.2.1.1
  refine eX5_copyFrom _ _ (bX5_copyFrom_0 _ _ ⟨_, hq2.sz.rd, _, hq.sz.wr, _, hq2.bl.rd, _, hq.bl.rd, by decide, ?_⟩)
  refine ⟨_, hq2.bA.cp (sp := 0) (dp := 0) (k := 8) hq.bA (by decide) (by decide), _, hq2.ab.rd, _, hq.ab.rd, by decide, _, hq2.aA.cp (sp := 0) (dp := 0) (k := 8) hq.aA (by decide) (by decide), _, hq.rw.rd, _, hq2.rw.rd, zvV hq.rob (v_rowsCopy hq hq2) (by decide) ?_⟩
  rintro w1 rfl
  refine ⟨rfl, _, _, rfl, ?_, ?_⟩
  · obtain ⟨⟨-, h2, h3, h4, h5⟩, g1, g2, g3⟩ := H
    refine ⟨⟨hq, h2, ?_, fun b hb => ?_, fun b hb => ?_⟩, g1, ?_, fun r i hr hi => ?_⟩
    · rw [zup_ne (by omega), zup_eq, upd_eq]
      exact h3
    · rw [zup_ne (by omega), zup_ne (by omega), zup_eq, zcpy_lt _ _ _ _ (by omega)]
      exact h4 b hb
    · rw [zup_ne (by omega), zup_eq, zcpy_lt _ _ _ _ (by omega), zup_ne (by omega)]
      exact h5 b hb
    · rw [zup_eq, upd_eq, zup_ne (by omega)]
      exact g2
    · have h8b : i < 8 := by omega
      rw [zup_eq, zcpy_lt _ _ _ _ (by omega), zup_ne (by omega), zup_ne (by omega)]
      exact g3 r i hr hi
  · exact ((((((zOn.refl q I A).f (p := q) (by omega)).a (p := q + 1) (by omega)).a (p := q + 2) (by omega)).f (p := q + 3) (by omega)).a (p := q + 4) (by omega))
theorem v_rsame (hq : zOq q) (hq2 : zOq q2) {n R R2 : Nat} {h h2 : Nat → Nat → Nat} (H : zRR I A q n R h) (H2 : zRR I A q2 n R2 h2) (hn : n ≤ 8) : zRd X 3 MX8_sameAs [.ref (q + 3), .ref (q2 + 3), .int (nI n)] (zWd I A t) (zB (decide (R = R2) && zall R (fun r => zsr n (h r) (h2 r)))) := by
  have h6 := H.1.1
  have h62 := H2.1.1
  refine eX8_sameAs _ _ _ (bX8_sameAs_0 _ _ _ ⟨_, hq.rsz.rd, _, hq2.rsz.rd, ?_⟩)
  rw [H.2.1, H2.2.1, zi_eq (by omega) (by omega)]
  by_cases c : R = R2
  · subst c
    rw [if_pos rfl, decide_eq_true rfl, Bool.true_and]
    refine zloopA (R := fun r b => zRn X 3 0 0 MX8_sameAs 15 [some (.ref (q + 3)), some (.ref (q2 + 3)), some (.int (nI n)), some (.int (nI r))] [] (zWd I A t) (fun v w1 => v = some (.int (zB b)) ∧ w1 = zWd I A t)) ?_ (fun r hr b e1 e2 => ?_)
    · refine bX8_sameAs_15 _ _ _ _ ⟨_, hq.rsz.rd, ?_⟩
      rw [H.2.1, if_pos (Int32.le_refl _)]
      exact ⟨rfl, rfl⟩
    · refine bX8_sameAs_15 _ _ _ _ ⟨_, hq.rsz.rd, ?_⟩
      rw [H.2.1, zi_le (by omega) (by omega), if_neg (by omega)]
      refine zvRd hq.rob (v_sameRow hq H hq2 H2 hn hr hr) (by decide) ?_
      rw [zB_if]
      by_cases d : zsr n (h r) (h2 r) = true
      · rw [if_pos d, nI_1]
        exact e1 d
      · rw [if_neg d]
        rw [Bool.not_eq_true] at d
        rw [e2 d]
        exact ⟨rfl, rfl⟩
  · rw [if_neg c, decide_eq_false c, Bool.false_and]
    exact ⟨rfl, rfl⟩
theorem v_sameAs (H : zCS I A q x) (H2 : zCS I A q2 y) : zRd X 4 MX5_sameAs [.ref q, .ref q2] (zWd I A t) (zB (zqe x y)) := by
  have h8 := H.1.n8
  have h82 := H2.1.n8
  refine eX5_sameAs _ _ (bX5_sameAs_0 _ _ ⟨_, H.1.sz, _, H2.1.sz, ?_⟩)
  rw [zi_eq (by omega) (by omega)]
  unfold zqe
  by_cases c : x.1 = y.1
  · rw [if_pos c, decide_eq_true c, Bool.true_and]
    have fin : zRd X 3 MX8_sameAs [.ref (q + 3), .ref (q2 + 3), .int (nI x.1)] (zWd I A t) (zB (decide (x.2.2.1 = y.2.2.1) && zall x.2.2.1 (fun r => zsr x.1 (x.2.2.2 r) (y.2.2.2 r)))) := by
      have H3 := H2.2
      rw [← c] at H3
      exact v_rsame H.1.1 H2.1.1 H.2 H3 h8
    generalize (decide (x.2.2.1 = y.2.2.1) && zall x.2.2.1 (fun r => zsr x.1 (x.2.2.2 r) (y.2.2.2 r))) = B at *
    have key := zloopA (n := x.1) (p := fun b => decide (x.2.1 b = y.2.1 b)) (R := fun b r => zRn X 4 0 0 MX5_sameAs 15 [some (.ref q), some (.ref q2), some (.int (nI b))] [] (zWd I A t) (fun v w1 => v = some (.int (zB (r && B))) ∧ w1 = zWd I A t)) (by
      refine bX5_sameAs_15 _ _ _ ⟨_, H.1.sz, ?_⟩
      rw [if_pos (Int32.le_refl _)]
      exact ⟨_, H.1.1.rw.rd, _, H2.1.1.rw.rd, _, H.1.sz, zvRd H.1.1.rob fin (by decide) ⟨zB_ok _, rfl, rfl⟩⟩) (fun b hb r e1 e2 => by
      have l1 := H.1.2.1.u31 b
      have l2 := H2.1.2.1.u31 b
      refine bX5_sameAs_15 _ _ _ ⟨_, H.1.sz, ?_⟩
      rw [zi_le (by omega) (by omega), if_neg (by omega)]
      refine ⟨_, H.1.fb, _, H.1.rb hb, _, H2.1.fb, _, H2.1.rb (by omega), ?_⟩
      rw [zi_eq (by omega) (by omega)]
      by_cases d : x.2.1 b = y.2.1 b
      · rw [if_pos d, nI_1]
        exact e1 (decide_eq_true d)
      · rw [if_neg d, e2 (decide_eq_false d), Bool.false_and]
        exact ⟨rfl, rfl⟩)
    exact key
  · rw [if_neg c, decide_eq_false c, Bool.false_and]
    exact ⟨rfl, rfl⟩
theorem zix_inj {hd j i : Nat} (hj : j < 10) (hi : i < 10) (hh : hd < 10) (e : zix hd j = zix hd i) : j = i := by
  unfold zix at e
  omega
/-- the ring with one more at its head -/
theorem zRg.push {I A : zF2} {hd : Nat} (hh : hd < 10) : ∀ {L : List (Nat → zSl)} {j m : Nat} {S : Nat → zSl}, zRg I A hd j S L → j + m ≤ 9 → zRg I A ((hd + 1) % 10) (j + 1) S (L.take m)
  | _, _, 0, _, _, _ => by
    rw [List.take_zero]
    trivial
  | [], _, _ + 1, _, _, _ => trivial
  | H :: L, j, m + 1, S, ⟨⟨s, x, h1, h2, h3, h4, h5⟩, g⟩, hm => by
    have e : zix ((hd + 1) % 10) (j + 1) = zix hd j := by
      unfold zix
      omega
    refine ⟨⟨s, x, h1, h2, h3, by rw [e]; exact h4, by rw [e]; exact h5⟩, ?_⟩
    exact zRg.push hh g (by omega)
theorem v_become {st : zSt} (H : zCI st I A) (Hy : zCS I A 17 y) (hy : zVl y) {s : Nat} (hs : s < 3) : zEv X 5 0 0 MX11_become [.ref 0, .int (nI s)] (zWd I A t) (fun v w1 => v = none ∧ ∃ I' A', w1 = zWd I' A' t ∧ zCS I' A' 17 y ∧ zHiE I A I' A' ∧ ((st.1 s = y ∧ zCI st I' A') ∨ (st.1 s ≠ y ∧ zCI (zPu st s y) I' A'))) := by
  obtain ⟨h1, h2, ⟨p1, p2, hd, p3, p4, p5⟩, h4, h5, h6, h7⟩ := H
  have q17 : zOq 17 := Or.inl ⟨3, by decide, rfl⟩
  have hsl := h1 s hs
  refine eX11_become _ _ (bX11_become_0 _ _ (zcRd (v_isSlot _) (by decide) ?_))
  rw [zB_t (zin_y hs)]
  refine ⟨_, fr_0_0.rd, _, zRs hs, _, fr_0_1.rd, zvRd hsl.1.1.ob (v_sameAs hsl Hy) (by decide) ?_⟩
  rw [zB_if]
  by_cases c : zqe (st.1 s) y = true
  · rw [if_pos c]
    exact ⟨rfl, I, A, rfl, Hy, zHiE.refl I A, Or.inl ⟨(zqe_iff (h2 s hs) hy).mp c, h1, h2, ⟨p1, p2, hd, p3, p4, p5⟩, h4, h5, h6, h7⟩⟩
  · rw [if_neg c]
    have hne : st.1 s ≠ y := fun e => c ((zqe_iff (h2 s hs) hy).mpr e)
    have qk : zOq (25 + 5 * hd) := Or.inr ⟨hd, p3, rfl⟩
    -- past.keep
    have keep : zEv X 3 0 0 MX6_keep [.ref 22, .int (nI s), .ref (2 + 5 * s)] (zWd I A t) (fun v w1 => v = none ∧ ∃ I1 A1, w1 = zWd (va_up (va_up I1 22 (upd (I1 22) 2 (nI ((hd + 1) % 10)))) 22 (upd (va_up I1 22 (upd (I1 22) 2 (nI ((hd + 1) % 10))) 22) 3 (nI (min (st.2.1.length + 1) 10)))) (va_up A1 24 (upd (A1 24) hd (nI s))) t ∧ zCS I1 A1 (25 + 5 * hd) (st.1 s) ∧ zOn (25 + 5 * hd) I A I1 A1) := by
      refine eX6_keep _ _ _ (bX6_keep_0 _ _ _ ⟨_, fr_22_0.rd, _, fi_22_2.rd, ?_⟩)
      rw [p4]
      refine ⟨_, zRk p3, zvV qk.ob (v_copyFrom qk (by omega) hsl) (by decide) ?_⟩
      rintro w1 ⟨I1, A1, rfl, g1, g2⟩
      have e22 : I1 22 = I 22 := (g2 22 (by omega)).2
      refine ⟨_, fr_22_1.rd, _, fi_22_2.rd, ?_⟩
      rw [e22, p4]
      refine ⟨_, ar_24.wr p3, _, fi_22_2.rd, ?_⟩
      rw [e22, p4, nI_1]
      have go : zRn X 3 0 0 MX6_keep 45 [some (.ref 22), none, none] [.int (nI ((hd + 1) % 10)), .ref 22] (zWd I1 (va_up A1 24 (upd (A1 24) hd (nI s))) t) (fun v w1 => v = none ∧ ∃ I1 A1, w1 = zWd (va_up (va_up I1 22 (upd (I1 22) 2 (nI ((hd + 1) % 10)))) 22 (upd (va_up I1 22 (upd (I1 22) 2 (nI ((hd + 1) % 10))) 22) 3 (nI (min (st.2.1.length + 1) 10)))) (va_up A1 24 (upd (A1 24) hd (nI s))) t ∧ zCS I1 A1 (25 + 5 * hd) (st.1 s) ∧ zOn (25 + 5 * hd) I A I1 A1) := by
        refine bX6_keep_45 _ _ _ ⟨_, fi_22_2.wr, _, fi_22_3.rd, by decide, zWd (va_up (va_up I1 22 (upd (I1 22) 2 (nI ((hd + 1) % 10)))) 22 (upd (va_up I1 22 (upd (I1 22) 2 (nI ((hd + 1) % 10))) 22) 3 (nI (min (st.2.1.length + 1) 10)))) (va_up A1 24 (upd (A1 24) hd (nI s))) t, ?_, rfl, I1, A1, rfl, g1, g2⟩
        rw [zup_eq, upd_ne _ _ (by decide), e22, p2, nI_1]
        have em : (if (10 : Int32) < nI (st.2.1.length + 1) then (10 : Int32) else nI (st.2.1.length + 1)) = nI (min (st.2.1.length + 1) 10) := by
          show (if nI 10 < nI (st.2.1.length + 1) then nI 10 else nI (st.2.1.length + 1)) = _
          rw [zi_lt (by decide) (by omega)]
          split
          · rw [show min (st.2.1.length + 1) 10 = 10 by omega]
          · rw [show min (st.2.1.length + 1) 10 = st.2.1.length + 1 by omega]
        rw [em, fi_22_3.wr, zup_eq]
      show if nI 10 ≤ nI (hd + 1) then _ else _
      rw [zi_le (by decide) (by omega)]
      by_cases ch : 10 ≤ hd + 1
      · rw [if_pos ch]
        have e : (hd + 1) % 10 = 0 := by omega
        rw [e] at go ⊢
        exact go
      · rw [if_neg ch]
        refine ⟨_, fi_22_2.rd, ?_⟩
        rw [e22, p4, nI_1]
        have e : (hd + 1) % 10 = hd + 1 := by omega
        rw [e] at go ⊢
        exact go
    refine ⟨_, fr_0_2.rd, _, fr_0_0.rd, _, zRs hs, zvV ob_22 keep (by decide) ?_⟩
    rintro w1 ⟨I1, A1, rfl, g1, g2⟩
    generalize hI2 : va_up (va_up I1 22 (upd (I1 22) 2 (nI ((hd + 1) % 10)))) 22 (upd (va_up I1 22 (upd (I1 22) 2 (nI ((hd + 1) % 10))) 22) 3 (nI (min (st.2.1.length + 1) 10))) = I2
    generalize hA2 : va_up A1 24 (upd (A1 24) hd (nI s)) = A2
    have i2 : ∀ p, p ≠ 22 → I2 p = I1 p := fun p hp => by rw [← hI2, zup_ne hp, zup_ne hp]
    have a2 : ∀ p, p ≠ 24 → A2 p = A1 p := fun p hp => by rw [← hA2, zup_ne hp]
    have i2a : I2 22 2 = nI ((hd + 1) % 10) := by rw [← hI2, zup_eq, zup_eq, upd_ne _ _ (by decide), upd_eq]
    have i2b : I2 22 3 = nI (min (st.2.1.length + 1) 10) := by rw [← hI2, zup_eq, upd_eq]
    have a2a : A2 24 hd = nI s := by rw [← hA2, zup_eq, upd_eq]
    have a2b : ∀ i, i ≠ hd → A2 24 i = A 24 i := fun i hi => by rw [← hA2, zup_eq, upd_ne _ _ hi, (g2 24 (by omega)).1]
    have cs2 : ∀ q x, zCS I1 A1 q x → zCS I2 A2 q x := fun q x hx => by
      have hq : ∀ r, r < 5 → q + r ≠ 22 ∧ q + r ≠ 24 := fun r hr => by
        rcases hx.1.1 with ⟨z, hz, rfl⟩ | ⟨z, hz, rfl⟩ <;> omega
      exact hx.same (fun r hr => ⟨a2 _ (hq r hr).2, i2 _ (hq r hr).1⟩)
    have hy2 : zCS I2 A2 17 y := cs2 _ _ (g2.cs qk (by omega) Hy)
    refine ⟨_, fr_0_0.rd, _, zRs hs, _, fr_0_1.rd, zvV hsl.1.1.ob (v_copyFrom hsl.1.1 (by omega) hy2) (by decide) ?_⟩
    rintro w3 ⟨I3, A3, rfl, k1, k2⟩
    have qs := hsl.1.1
    refine ⟨rfl, I3, A3, rfl, k2.cs qs (by omega) hy2, ?_, Or.inr ⟨hne, ?_⟩⟩
    · intro p hp
      have z1 := k2 p (by omega)
      have z2 := g2 p (by omega)
      exact ⟨z1.1.trans ((a2 p (by omega)).trans z2.1), z1.2.trans ((i2 p (by omega)).trans z2.2)⟩
    · have oth : ∀ p, (p < 2 ∨ 17 ≤ p) → (p < 25 ∨ 75 ≤ p) → p ≠ 22 → p ≠ 24 → A3 p = A p ∧ I3 p = I p := fun p hp hp2 hp3 hp4 => by
        have z1 := k2 p (by omega)
        have z2 := g2 p (by omega)
        exact ⟨z1.1.trans ((a2 p hp4).trans z2.1), z1.2.trans ((i2 p hp3).trans z2.2)⟩
      have tp : ∀ p a cap b, zTp I A p a cap b → 75 ≤ p → 75 ≤ a → zTp I3 A3 p a cap b := fun p a cap b ⟨z1, z2, z3⟩ hp ha => ⟨z1, by rw [(oth p (by omega) (by omega) (by omega) (by omega)).2]; exact z2, fun i hi => by rw [(oth a (by omega) (by omega) (by omega) (by omega)).1]; exact z3 i hi⟩
      have r22 : I3 22 = I2 22 := (k2 22 (by omega)).2
      have r24 : A3 24 = A2 24 := (k2 24 (by omega)).1
      refine ⟨fun s' hs' => ?_, fun s' hs' => ?_, ⟨?_, ?_, (hd + 1) % 10, by omega, by rw [r22]; exact i2a, ?_⟩, tp _ _ _ _ h4 (by decide) (by decide), tp _ _ _ _ h5 (by decide) (by decide), by rw [(oth 79 (by decide) (by decide) (by decide) (by decide)).2]; exact h6, by rw [(oth 79 (by decide) (by decide) (by decide) (by decide)).2]; exact h7⟩
      · show zCS I3 A3 (2 + 5 * s') (va_up st.1 s y s')
        by_cases e : s' = s
        · rw [e, zup_eq]
          exact k1
        · rw [zup_ne e]
          exact k2.cs qs (by omega) (cs2 _ _ (g2.cs qk (by omega) (h1 s' hs')))
      · show zVl (va_up st.1 s y s')
        by_cases e : s' = s
        · rw [e, zup_eq]
          exact hy
        · rw [zup_ne e]
          exact h2 s' hs'
      · show ((st.1 :: st.2.1).take 10).length ≤ 10
        rw [List.length_take]
        omega
      · show I3 22 3 = nI ((st.1 :: st.2.1).take 10).length
        rw [r22, i2b, List.length_take, List.length_cons]
        congr 1
        omega
      · show zRg I3 A3 ((hd + 1) % 10) 0 (va_up st.1 s y) ((st.1 :: st.2.1).take 10)
        rw [List.take_succ_cons]
        have e0 : zix ((hd + 1) % 10) 0 = hd := by
          unfold zix
          omega
        refine ⟨⟨s, st.1 s, hs, ?_, h2 s hs, by rw [e0, r24]; exact a2a, by rw [e0]; exact k2.cs qs (by omega) (cs2 _ _ g1)⟩, ?_⟩
        · funext z
          by_cases e : z = s
          · rw [e, zup_eq]
          · rw [zup_ne e, zup_ne e]
        · have hp := zRg.push p3 p5 (m := 9) (by decide)
          refine zRg.same (fun i hi hi2 => ?_) hp
          have hl : (st.2.1.take 9).length ≤ 9 := by
            rw [List.length_take]
            omega
          have ne : zix ((hd + 1) % 10) i ≠ hd := fun e => by
            have := zix_inj (hd := (hd + 1) % 10) (j := i) (i := 0) (by omega) (by decide) (by omega) (e.trans e0.symm)
            omega
          have lt := zix_lt ((hd + 1) % 10) i
          refine ⟨by rw [r24]; exact a2b _ ne, fun x hx => k2.cs qs (by omega) (cs2 _ _ (g2.cs qk (by omega) hx))⟩
end ZSt
