/-! ===== a two more in an order; orders that relations make; first lines; the search ===== -/
/-- a is below b from now on -/
def zln (u : Nat → Nat) (a b : Nat) : Nat → Nat := fun x => if x = b ∨ zlt u b x = true then u x ||| (u a ||| 2 ^ a) else u x
def zle (u : Nat → Nat) (x a : Nat) : Prop := x = a ∨ zlt u x a = true
theorem zln_lt (u : Nat → Nat) (a b x y : Nat) : zlt (zln u a b) x y = true ↔ (zlt u x y = true ∨ (zle u x a ∧ zle u b y)) := by
  show ((if y = b ∨ zlt u b y = true then u y ||| (u a ||| 2 ^ a) else u y).testBit x = true) ↔ _
  by_cases h : y = b ∨ zlt u b y = true
  · rw [if_pos h, Nat.testBit_or, Nat.testBit_or, Nat.testBit_two_pow, Bool.or_eq_true, Bool.or_eq_true, decide_eq_true_eq]
    constructor
    · rintro (q | q | q)
      · exact Or.inl q
      · exact Or.inr ⟨Or.inr q, h.imp (fun e => e.symm) id⟩
      · exact Or.inr ⟨Or.inl q.symm, h.imp (fun e => e.symm) id⟩
    · rintro (q | ⟨q | q, -⟩)
      · exact Or.inl q
      · exact Or.inr (Or.inr q.symm)
      · exact Or.inr (Or.inl q)
  · rw [if_neg h]
    constructor
    · exact fun q => Or.inl q
    · rintro (q | ⟨-, q⟩)
      · exact q
      · exact absurd (q.imp (fun e => e.symm) id) h
theorem zln_po {n : Nat} {u : Nat → Nat} (h : zPo n u) {a b : Nat} (ha : a < n) (hb : b < n) (hab : a ≠ b) (hba : zlt u b a = false) : zPo n (zln u a b) := by
  have tr := h.2.2.2.2
  refine ⟨h.1, fun x => ?_, fun x hx => ?_, fun x => ?_, fun x y z h1 h2 => ?_⟩
  · show (if x = b ∨ zlt u b x = true then u x ||| (u a ||| 2 ^ a) else u x) < 2 ^ n
    split
    · exact Nat.or_lt_two_pow (h.2.1 x) (zor_lt (h.2.1 a) ha)
    · exact h.2.1 x
  · show (if x = b ∨ zlt u b x = true then u x ||| (u a ||| 2 ^ a) else u x) = 0
    rw [if_neg]
    · exact h.2.2.1 x hx
    · rintro (q | q)
      · omega
      · have := (h.lt q).2
        omega
  · cases hc : zlt (zln u a b) x x
    · rfl
    · rcases (zln_lt u a b x x).mp hc with q | ⟨q1, q2⟩
      · rw [h.2.2.2.1 x] at q
        cases q
      · have : zlt u b a = true := by
          rcases q1 with q1 | q1
          · rcases q2 with q2 | q2
            · exact absurd (q1.symm.trans q2.symm) hab
            · rw [← q1]
              exact q2
          · rcases q2 with q2 | q2
            · rw [q2]
              exact q1
            · exact tr _ _ _ q2 q1
        rw [hba] at this
        cases this
  · rw [zln_lt] at h1 h2 ⊢
    rcases h1 with h1 | ⟨p1, p2⟩
    · rcases h2 with h2 | ⟨p1, p2⟩
      · exact Or.inl (tr _ _ _ h1 h2)
      · refine Or.inr ⟨Or.inr ?_, p2⟩
        rcases p1 with q | q
        · rw [← q]
          exact h1
        · exact tr _ _ _ h1 q
    · rcases h2 with h2 | ⟨r1, r2⟩
      · refine Or.inr ⟨p1, Or.inr ?_⟩
        rcases p2 with q | q
        · rw [q]
          exact h2
        · exact tr _ _ _ q h2
      · exact Or.inr ⟨p1, r2⟩
theorem zov_ln {n : Nat} {u : Nat → Nat} (h : zPo n u) {a b : Nat} (ha : a < n) (hb : b < n) (hab : a ≠ b) (hba : zlt u b a = false) (x : Nat) : zov n (zln u a b) x = if x = a ∨ zlt u x a = true then zov n u x ||| (zov n u b ||| 2 ^ b) else zov n u x := by
  have h' := zln_po h ha hb hab hba
  refine zext (fun y => ?_)
  rw [zov_bit h', Bool.eq_iff_iff, zln_lt]
  by_cases c : x = a ∨ zlt u x a = true
  · rw [if_pos c, Nat.testBit_or, Nat.testBit_or, zov_bit h, zov_bit h, Nat.testBit_two_pow, Bool.or_eq_true, Bool.or_eq_true, decide_eq_true_eq]
    constructor
    · rintro (q | ⟨-, q | q⟩)
      · exact Or.inl q
      · exact Or.inr (Or.inr q)
      · exact Or.inr (Or.inl q)
    · rintro (q | q | q)
      · exact Or.inl q
      · exact Or.inr ⟨c, Or.inr q⟩
      · exact Or.inr ⟨c, Or.inl q⟩
  · rw [if_neg c, zov_bit h]
    constructor
    · rintro (q | ⟨q, -⟩)
      · exact q
      · exact absurd q c
    · exact fun q => Or.inl q
/-- v is the order that E makes -/
def zGe (n : Nat) (E v : Nat → Nat) : Prop := zPo n v ∧ (∀ x, zsb (E x) (v x)) ∧ ∀ w : Nat → Nat, (∀ x y z, zlt w x y = true → zlt w y z = true → zlt w x z = true) → (∀ x, zsb (E x) (w x)) → ∀ x, zsb (v x) (w x)
theorem zGe_0 {n : Nat} {u : Nat → Nat} (h : zPo n u) : zGe n u u := ⟨h, fun _ _ q => q, fun _ _ q => q⟩
theorem zGe_s {n : Nat} {E v : Nat → Nat} (h : zGe n E v) {a b : Nat} (ha : a < n) (hb : b < n) (hab : a ≠ b) (hv : zlt v a b = false) : zGe n (va_up E a (E a ||| 2 ^ b)) (zln v b a) := by
  obtain ⟨h1, h2, h3⟩ := h
  refine ⟨zln_po h1 hb ha (fun e => hab e.symm) hv, fun x i hi => ?_, fun w hw hE x i hi => ?_⟩
  · refine (zln_lt v b a i x).mpr ?_
    by_cases e : x = a
    · subst e
      rw [zup_eq, Nat.testBit_or, Nat.testBit_two_pow, Bool.or_eq_true, decide_eq_true_eq] at hi
      rcases hi with q | q
      · exact Or.inl (h2 x i q)
      · exact Or.inr ⟨Or.inl q.symm, Or.inl rfl⟩
    · rw [zup_ne e] at hi
      exact Or.inl (h2 x i hi)
  · have hvw := h3 w hw (fun x' i' hi' => hE x' i' (by
      by_cases e : x' = a
      · rw [e] at hi' ⊢
        rw [zup_eq, Nat.testBit_or, hi']
        rfl
      · rw [zup_ne e]
        exact hi'))
    have hba : zlt w b a = true := hE a b (by
      rw [zup_eq, Nat.testBit_or, Nat.testBit_two_pow]
      simp)
    rcases (zln_lt v b a i x).mp hi with q | ⟨q1, q2⟩
    · exact hvw x i q
    · have hia : zlt w i a = true := by
        rcases q1 with e | e
        · rw [e]
          exact hba
        · exact hw _ _ _ (hvw b i e) hba
      rcases q2 with e | e
      · rw [← e]
        exact hia
      · exact hw _ _ _ hia (hvw x a e)
/-- the first row in which each comes behind E of it: the sets, the things -/
def zgs (n : Nat) (E : Nat → Nat) : Nat → Nat
  | 0 => 0
  | i + 1 => zgs n E i ||| 2 ^ zfst (fun a => !(zgs n E i).testBit a && decide (zdf (E a) (zgs n E i) = 0)) n
def zgp (n : Nat) (E : Nat → Nat) (i : Nat) : Nat := zfst (fun a => !(zgs n E i).testBit a && decide (zdf (E a) (zgs n E i) = 0)) n
theorem zgs_s (n : Nat) (E : Nat → Nat) (i : Nat) : zgs n E (i + 1) = zgs n E i ||| 2 ^ zgp n E i := rfl
theorem zgs_0 (n : Nat) (E : Nat → Nat) : zgs n E 0 = 0 := rfl
theorem zgs_rw (n : Nat) (E : Nat → Nat) : ∀ i, zgs n E i = zRw (zgp n E) i
  | 0 => rfl
  | i + 1 => by rw [zgs_s, zRw_s, zgs_rw n E i]
theorem zgp_y {n : Nat} {E : Nat → Nat} {i : Nat} (h : zgp n E i < n) : (zgs n E i).testBit (zgp n E i) = false ∧ zdf (E (zgp n E i)) (zgs n E i) = 0 := by
  have := zfst_yes (fun a => !(zgs n E i).testBit a && decide (zdf (E a) (zgs n E i) = 0)) n h
  have h2 : (!(zgs n E i).testBit (zgp n E i) && decide (zdf (E (zgp n E i)) (zgs n E i) = 0)) = true := this
  simpa using h2
theorem zgp_inj {n : Nat} {E : Nat → Nat} (h : ∀ i, i < n → zgp n E i < n) : ∀ i j, i < n → j < n → zgp n E i = zgp n E j → i = j := by
  have key : ∀ i j, i < j → j < n → zgp n E i ≠ zgp n E j := fun i j hij hj e => by
    have h1 := (zgp_y (h j hj)).1
    rw [zgs_rw, ← e] at h1
    have h2 := (zRw_bit (zgp n E) (zgp n E i) j).mpr ⟨i, hij, rfl⟩
    rw [h1] at h2
    cases h2
  intro i j hi hj e
  rcases Nat.lt_trichotomy i j with q | q | q
  · exact absurd e (key i j q hj)
  · exact q
  · exact absurd e.symm (key j i q hi)
theorem zgs_ok {n : Nat} {E : Nat → Nat} (hn : n ≤ 8) : ∀ i, i ≤ n → (∀ j, j < i → zgp n E j < n) → zgs n E i < 2 ^ n ∧ zpc (zgs n E i) = i
  | 0, _, _ => ⟨Nat.two_pow_pos n, zpc0⟩
  | i + 1, hi, h => by
    obtain ⟨h1, h2⟩ := zgs_ok hn i (by omega) (fun j hj => h j (by omega))
    have h28 := z28 hn
    have h3 := h i (by omega)
    rw [zgs_s]
    exact ⟨zor_lt h1 h3, by rw [(zpc_out _ (by omega) _ (by omega)).2 (zgp_y h3).1, h2]⟩
/-- where an order bears E, the row goes on -/
theorem zgp_ok {n : Nat} {E v : Nat → Nat} (h : zPo n v) (hE : ∀ x, zsb (E x) (v x)) : ∀ i, i < n → zgp n E i < n := by
  have key : ∀ i, i ≤ n → ∀ j, j < i → zgp n E j < n := by
    intro i
    induction i with
    | zero => exact fun _ j hj => absurd hj (Nat.not_lt_zero _)
    | succ i ih =>
      intro hi j hj
      rcases Nat.lt_or_ge j i with q | q
      · exact ih (by omega) j q
      · have : j = i := by omega
        subst this
        obtain ⟨h1, h2⟩ := zgs_ok (E := E) h.1 j (by omega) (ih (by omega))
        have hne : zgs n E j ≠ 2 ^ n - 1 := fun e => by
          have := zpc_full n h.1
          rw [← e, h2] at this
          omega
        obtain ⟨a, ha⟩ := zcf_ex h h1 hne
        obtain ⟨c1, c2, c3⟩ := zcf_s ha
        have := zfst_lt (p := fun a => !(zgs n E j).testBit a && decide (zdf (E a) (zgs n E j) = 0)) c1 (by
          have c4 : zdf (E a) (zgs n E j) = 0 := zdf0.mpr (fun i hi => zdf0.mp c3 i (hE a i hi))
          simp [c2, c4])
        show zfst _ n < n
        omega
  exact fun i hi => key (i + 1) (by omega) i (by omega)
/-- the row of E is that of the order that E makes -/
theorem zgs_eq {n : Nat} {E v : Nat → Nat} (h : zGe n E v) : ∀ i, i ≤ n → zgs n E i = zgs n v i ∧ ∀ x, (zgs n v i).testBit x = true → zdf (E x) (zgs n v i) = 0
  | 0, _ => ⟨rfl, fun x hx => by rw [zgs_0] at hx; simp at hx⟩
  | i + 1, hi => by
    obtain ⟨e, hc⟩ := zgs_eq h i (by omega)
    have hpe : zgp n E i = zgp n v i := by
      unfold zgp
      rw [e]
      congr 1
      funext a
      congr 1
      rw [Bool.eq_iff_iff, decide_eq_true_eq, decide_eq_true_eq]
      constructor
      · intro q
        have hw := h.2.2 (fun x => if (zgs n v i).testBit x = true ∨ x = a then v x &&& zgs n v i else v x) (fun x y z h1 h2 => by
          have h1 : ((if (zgs n v i).testBit y = true ∨ y = a then v y &&& zgs n v i else v y)).testBit x = true := h1
          have h2 : ((if (zgs n v i).testBit z = true ∨ z = a then v z &&& zgs n v i else v z)).testBit y = true := h2
          show ((if (zgs n v i).testBit z = true ∨ z = a then v z &&& zgs n v i else v z)).testBit x = true
          have xy : zlt v x y = true := by
            split at h1
            · rw [Nat.testBit_and, Bool.and_eq_true] at h1
              exact h1.1
            · exact h1
          by_cases c : (zgs n v i).testBit z = true ∨ z = a
          · rw [if_pos c] at h2 ⊢
            rw [Nat.testBit_and, Bool.and_eq_true] at h2
            rw [if_pos (Or.inl h2.2), Nat.testBit_and, Bool.and_eq_true] at h1
            rw [Nat.testBit_and, Bool.and_eq_true]
            exact ⟨h.1.2.2.2.2 _ _ _ xy h2.1, h1.2⟩
          · rw [if_neg c] at h2 ⊢
            exact h.1.2.2.2.2 _ _ _ xy h2) (fun x j hj => by
          show ((if (zgs n v i).testBit x = true ∨ x = a then v x &&& zgs n v i else v x)).testBit j = true
          by_cases c : (zgs n v i).testBit x = true ∨ x = a
          · rw [if_pos c, Nat.testBit_and, Bool.and_eq_true]
            refine ⟨h.2.1 x j hj, ?_⟩
            rcases c with c | c
            · exact zdf0.mp (hc x c) j hj
            · subst c
              exact zdf0.mp q j hj
          · rw [if_neg c]
            exact h.2.1 x j hj) a
        refine zdf0.mpr (fun j hj => ?_)
        have := hw j hj
        have this : ((if (zgs n v i).testBit a = true ∨ a = a then v a &&& zgs n v i else v a)).testBit j = true := this
        rw [if_pos (Or.inr rfl), Nat.testBit_and, Bool.and_eq_true] at this
        exact this.2
      · intro q
        exact zdf0.mpr (fun j hj => zdf0.mp q j (h.2.1 a j hj))
    rw [zgs_s, zgs_s, hpe, e]
    refine ⟨rfl, fun x hx => ?_⟩
    have hlt := zgp_ok h.1 (E := v) (fun _ _ q => q) i (by omega)
    rw [Nat.testBit_or, Nat.testBit_two_pow, Bool.or_eq_true, decide_eq_true_eq] at hx
    refine zdf0.mpr (fun j hj => ?_)
    rw [Nat.testBit_or, Bool.or_eq_true]
    refine Or.inl ?_
    rcases hx with q | q
    · exact zdf0.mp (hc x q) j hj
    · subst q
      exact zdf0.mp (zgp_y hlt).2 j (h.2.1 _ j hj)
theorem zgp_eq {n : Nat} {E v : Nat → Nat} (h : zGe n E v) {i : Nat} (hi : i < n) : zgp n E i = zgp n v i := by
  have h1 := (zgs_eq h i (by omega)).1
  have h2 := (zgs_eq h (i + 1) (by omega)).1
  have hE := zgp_ok h.1 h.2.1 i hi
  have hv := zgp_ok h.1 (E := v) (fun _ _ q => q) i hi
  rw [zgs_s, zgs_s, h1] at h2
  have h3 := (zgp_y hv).1
  have h4 : (zgs n v i ||| 2 ^ zgp n E i).testBit (zgp n v i) = true := by
    rw [h2, Nat.testBit_or, Nat.testBit_two_pow]
    simp
  rw [Nat.testBit_or, h3, Nat.testBit_two_pow, Bool.false_or, decide_eq_true_eq] at h4
  exact h4
/-- where a two can't be, there is no row -/
theorem zgp_no {n : Nat} {E v : Nat → Nat} (h : zGe n E v) {a b : Nat} (ha : a < n) (hb : b < n) (hv : zlt v a b = true) : ¬ ∀ i, i < n → zgp n (va_up E a (E a ||| 2 ^ b)) i < n := by
  intro hall
  have hn := h.1.1
  generalize hE' : va_up E a (E a ||| 2 ^ b) = E' at *
  generalize hf : zgp n E' = f at *
  have f2 : ∀ i j, i < n → j < n → f i = f j → i = j := by
    rw [← hf]
    rw [← hf] at hall
    exact zgp_inj hall
  have pre : ∀ x, x < n → zsb (E' x) (zRw f (zpl n f x)) := fun x hx => by
    obtain ⟨p1, p2, -⟩ := zpl_ok hn hall f2 hx
    have h1 : zgp n E' (zpl n f x) < n := by
      rw [hf]
      exact hall _ p1
    have h2 := (zgp_y h1).2
    rw [hf, p2, zgs_rw, hf] at h2
    exact zdf0.mp h2
  have wb : ∀ x y, (if y < n then zRw f (zpl n f y) else 0).testBit x = true ↔ (y < n ∧ x < n ∧ zpl n f x < zpl n f y) := fun x y => by
    by_cases hy : y < n
    · rw [if_pos hy, zRw_bit]
      have py := (zpl_ok hn hall f2 hy).1
      constructor
      · rintro ⟨j, hj, e⟩
        have hjn : j < n := by omega
        have := zpl_f hn hall f2 hjn
        rw [e] at this
        exact ⟨hy, by rw [← e]; exact hall j hjn, by omega⟩
      · rintro ⟨-, hx, hlt⟩
        exact ⟨zpl n f x, hlt, (zpl_ok hn hall f2 hx).2.1⟩
    · rw [if_neg hy]
      simp [hy]
  have hw := h.2.2 (fun y => if y < n then zRw f (zpl n f y) else 0) (fun x y z h1 h2 => by
    have h1 := (wb x y).mp h1
    have h2 := (wb y z).mp h2
    exact (wb x z).mpr ⟨h2.1, h1.2.1, by omega⟩) (fun x j hj => by
    show (if x < n then zRw f (zpl n f x) else 0).testBit j = true
    have hxn : x < n := by
      rcases Nat.lt_or_ge x n with q | q
      · exact q
      · have := h.2.1 x j hj
        rw [h.1.2.2.1 x q] at this
        simp at this
    rw [if_pos hxn]
    refine pre x hxn j ?_
    rw [← hE']
    by_cases e : x = a
    · subst e
      rw [zup_eq, Nat.testBit_or, hj]
      rfl
    · rw [zup_ne e]
      exact hj) b a hv
  have hw := ((wb a b).mp hw).2.2
  have h5 := pre a ha b (by
    rw [← hE', zup_eq, Nat.testBit_or, Nat.testBit_two_pow]
    simp)
  have h6 := (wb b a).mp (by
    rw [if_pos ha]
    exact h5)
  omega
/-- what a search ends with: 1 found, 0 not, 3 too long; tries; the orders of the places -/
abbrev zSR : Type := Nat × Nat × (Nat → Nat → Nat)
def zsl (F : Nat → Nat → zSR) (tr : Nat) (U : Nat → Nat → Nat) : Nat → Nat → Nat → zSR
  | 0, _, c => (0, c, U)
  | j + 1, p, c => if c = tr then (3, c, U) else if (F p (c + 1)).1 = 0 then zsl F tr U j (p + 1) (F p (c + 1)).2.1 else F p (c + 1)
theorem zsl_s (F : Nat → Nat → zSR) (tr : Nat) (U : Nat → Nat → Nat) (j p c : Nat) : zsl F tr U (j + 1) p c = if c = tr then (3, c, U) else if (F p (c + 1)).1 = 0 then zsl F tr U j (p + 1) (F p (c + 1)).2.1 else F p (c + 1) := rfl
theorem zsl_0 (F : Nat → Nat → zSR) (tr : Nat) (U : Nat → Nat → Nat) (p c : Nat) : zsl F tr U 0 p c = (0, c, U) := rfl
def zSe (t tr : Nat) : List (Nat × Nat) → Nat → Nat → (Nat → Nat → Nat) → zSR
  | [], _, c, U => (1, c, U)
  | (a, b) :: L, g, c, U => zsl (fun p c => if zlt (U p) a b = true then (0, c, U) else zSe t tr L (max g (p + 1)) c (va_up U p (zln (U p) b a))) tr U (min (g + 1) t) 0 c
theorem zSe_n (t tr g c : Nat) (U : Nat → Nat → Nat) : zSe t tr [] g c U = (1, c, U) := rfl
theorem zSe_c (t tr : Nat) (a b : Nat) (L : List (Nat × Nat)) (g c : Nat) (U : Nat → Nat → Nat) : zSe t tr ((a, b) :: L) g c U = zsl (fun p c => if zlt (U p) a b = true then (0, c, U) else zSe t tr L (max g (p + 1)) c (va_up U p (zln (U p) b a))) tr U (min (g + 1) t) 0 c := rfl
theorem zsl_bd {F : Nat → Nat → zSR} {tr : Nat} {U : Nat → Nat → Nat} (hF : ∀ p c, c ≤ tr → c ≤ (F p c).2.1 ∧ (F p c).2.1 ≤ tr ∧ ((F p c).1 = 0 ∨ (F p c).1 = 1 ∨ (F p c).1 = 3)) : ∀ j p c, c ≤ tr → c ≤ (zsl F tr U j p c).2.1 ∧ (zsl F tr U j p c).2.1 ≤ tr ∧ ((zsl F tr U j p c).1 = 0 ∨ (zsl F tr U j p c).1 = 1 ∨ (zsl F tr U j p c).1 = 3)
  | 0, p, c, hc => ⟨Nat.le_refl _, hc, Or.inl rfl⟩
  | j + 1, p, c, hc => by
    rw [zsl_s]
    by_cases e : c = tr
    · rw [if_pos e]
      exact ⟨Nat.le_refl _, hc, Or.inr (Or.inr rfl)⟩
    · rw [if_neg e]
      obtain ⟨h1, h2, h3⟩ := hF p (c + 1) (by omega)
      by_cases z : (F p (c + 1)).1 = 0
      · rw [if_pos z]
        obtain ⟨g1, g2, g3⟩ := zsl_bd (U := U) hF j (p + 1) (F p (c + 1)).2.1 h2
        exact ⟨by omega, g2, g3⟩
      · rw [if_neg z]
        exact ⟨by omega, h2, h3⟩
theorem zSe_bd {t tr : Nat} : ∀ (L : List (Nat × Nat)) (g c : Nat) (U : Nat → Nat → Nat), c ≤ tr → c ≤ (zSe t tr L g c U).2.1 ∧ (zSe t tr L g c U).2.1 ≤ tr ∧ ((zSe t tr L g c U).1 = 0 ∨ (zSe t tr L g c U).1 = 1 ∨ (zSe t tr L g c U).1 = 3)
  | [], g, c, U, hc => ⟨Nat.le_refl _, hc, Or.inr (Or.inl rfl)⟩
  | (a, b) :: L, g, c, U, hc => by
    rw [zSe_c]
    refine zsl_bd (fun p c hc => ?_) _ _ _ hc
    by_cases z : zlt (U p) a b = true
    · rw [if_pos z]
      exact ⟨Nat.le_refl _, hc, Or.inl rfl⟩
    · rw [if_neg z]
      exact zSe_bd L _ c _ hc
def zRV (r : zSR) : Int32 := if r.1 = 0 then -1 else if r.1 = 1 then nI r.2.1 else -3
