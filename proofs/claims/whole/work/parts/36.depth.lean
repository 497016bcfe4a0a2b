/-! ===== how long the longest chain from a thing is ===== -/
def zmx (n : Nat) (g : Nat → Nat) : Nat := zit (fun j x => if x < g j then g j else x) 0 n
theorem zmx_s (n : Nat) (g : Nat → Nat) : zmx (n + 1) g = if zmx n g < g n then g n else zmx n g := rfl
theorem zmx_ge (g : Nat → Nat) : ∀ (n j : Nat), j < n → g j ≤ zmx n g
  | 0, j, h => absurd h (Nat.not_lt_zero _)
  | n + 1, j, h => by
    rw [zmx_s]
    rcases Nat.lt_or_ge j n with q | q
    · have := zmx_ge g n j q
      split <;> omega
    · have : j = n := by omega
      subst this
      split <;> omega
theorem zmx_le (g : Nat → Nat) (b : Nat) : ∀ (n : Nat), (∀ j, j < n → g j ≤ b) → zmx n g ≤ b
  | 0, _ => Nat.zero_le _
  | n + 1, h => by
    rw [zmx_s]
    have h1 := zmx_le g b n (fun j hj => h j (by omega))
    have h2 := h n (by omega)
    split <;> omega
theorem zmx_in (g : Nat → Nat) : ∀ (n : Nat), zmx n g = 0 ∨ ∃ j, j < n ∧ zmx n g = g j
  | 0 => Or.inl rfl
  | n + 1 => by
    rw [zmx_s]
    split
    · exact Or.inr ⟨n, by omega, rfl⟩
    · rcases zmx_in g n with h | ⟨j, h1, h2⟩
      · exact Or.inl h
      · exact Or.inr ⟨j, by omega, h2⟩
theorem zmx_cong {g g' : Nat → Nat} : ∀ {n : Nat}, (∀ j, j < n → g j = g' j) → zmx n g = zmx n g'
  | 0, _ => rfl
  | n + 1, h => by rw [zmx_s, zmx_s, zmx_cong (fun j hj => h j (by omega)), h n (by omega)]
theorem zpc_sum : ∀ m, m < 256 → zpc m = (m.testBit 0).toNat + (m.testBit 1).toNat + (m.testBit 2).toNat + (m.testBit 3).toNat + (m.testBit 4).toNat + (m.testBit 5).toNat + (m.testBit 6).toNat + (m.testBit 7).toNat := by decide +kernel
theorem zbn {a b : Bool} (h : a = true → b = true) : a.toNat ≤ b.toNat := by cases a <;> cases b <;> simp_all
theorem zpc_mono {a b : Nat} (ha : a < 256) (hb : b < 256) (h : ∀ i, a.testBit i = true → b.testBit i = true) : zpc a ≤ zpc b := by
  rw [zpc_sum a ha, zpc_sum b hb]
  have := zbn (h 0); have := zbn (h 1); have := zbn (h 2); have := zbn (h 3); have := zbn (h 4); have := zbn (h 5); have := zbn (h 6); have := zbn (h 7)
  omega
theorem zpc_lt {a b : Nat} (ha : a < 256) (hb : b < 256) (h : ∀ i, a.testBit i = true → b.testBit i = true) {k : Nat} (hk : b.testBit k = true) (hk' : a.testBit k = false) : zpc a < zpc b := by
  have hk8 : k < 8 := by
    rcases Nat.lt_or_ge k 8 with q | q
    · exact q
    · rw [zbit_hi (n := 8) hb q] at hk
      cases hk
  rw [zpc_sum a ha, zpc_sum b hb]
  have h0 := zbn (h 0); have h1 := zbn (h 1); have h2 := zbn (h 2); have h3 := zbn (h 3); have h4 := zbn (h 4); have h5 := zbn (h 5); have h6 := zbn (h 6); have h7 := zbn (h 7)
  rcases (show k = 0 ∨ k = 1 ∨ k = 2 ∨ k = 3 ∨ k = 4 ∨ k = 5 ∨ k = 6 ∨ k = 7 by omega) with rfl | rfl | rfl | rfl | rfl | rfl | rfl | rfl <;> (rw [hk, hk'] at *; simp only [Bool.toNat_true, Bool.toNat_false] at *; omega)
/-- S i: those that come behind i; each of them has fewer behind it -/
def zTr (n : Nat) (S : Nat → Nat) : Prop := n ≤ 8 ∧ (∀ i, S i < 2 ^ n) ∧ (∀ i, (S i).testBit i = false) ∧ ∀ i j k, (S i).testBit j = true → (S j).testBit k = true → (S i).testBit k = true
theorem zTr.u {n : Nat} {u : Nat → Nat} (h : zPo n u) : zTr n u := ⟨h.1, h.2.1, h.2.2.2.1, fun i j k h1 h2 => h.2.2.2.2 k j i h2 h1⟩
theorem zTr.o {n : Nat} {u : Nat → Nat} (h : zPo n u) : zTr n (zov n u) := ⟨h.1, zov_lt n u, fun i => by rw [zov_bit h]; exact h.2.2.2.1 i, fun i j k h1 h2 => by
  rw [zov_bit h] at *
  exact h.2.2.2.2 i j k h1 h2⟩
theorem zTr.dn {n : Nat} {S : Nat → Nat} (h : zTr n S) {i j : Nat} (hj : (S i).testBit j = true) : zpc (S j) < zpc (S i) := by
  have h8 := z28 h.1
  have h1 := h.2.1 i
  have h2 := h.2.1 j
  exact zpc_lt (by omega) (by omega) (fun k hk => h.2.2.2 i j k hj hk) hj (h.2.2.1 j)
theorem zTr.ltn {n : Nat} {S : Nat → Nat} (h : zTr n S) {i j : Nat} (hj : (S i).testBit j = true) : j < n := by
  rcases Nat.lt_or_ge j n with q | q
  · exact q
  · rw [zbit_hi (h.2.1 i) q] at hj
    cases hj
def zLd (S : Nat → Nat) (n : Nat) : Nat → Nat → Nat
  | 0, _ => 0
  | f + 1, i => zmx n (fun j => if (S i).testBit j = true then zLd S n f j else 0) + 1
theorem zLd_st {n : Nat} {S : Nat → Nat} (h : zTr n S) : ∀ (f i : Nat), zpc (S i) < f → zLd S n f i = zLd S n (f + 1) i
  | 0, i, hf => absurd hf (Nat.not_lt_zero _)
  | f + 1, i, hf => by
    rw [zLd, zLd]
    refine congrArg (· + 1) (zmx_cong (fun j hj => ?_))
    by_cases hb : (S i).testBit j = true
    · rw [if_pos hb, if_pos hb]
      have := h.dn hb
      exact zLd_st h f j (by omega)
    · rw [if_neg hb, if_neg hb]
/-- the longest chain from i -/
def zde (S : Nat → Nat) (n i : Nat) : Nat := zLd S n 9 i
theorem zde_eq {n : Nat} {S : Nat → Nat} (h : zTr n S) (i : Nat) : zde S n i = zmx n (fun j => if (S i).testBit j = true then zde S n j else 0) + 1 := by
  unfold zde
  rw [zLd]
  refine congrArg (· + 1) (zmx_cong (fun j hj => ?_))
  by_cases hb : (S i).testBit j = true
  · rw [if_pos hb, if_pos hb]
    have := h.dn hb
    have := zpc8 (S i)
    exact zLd_st h 8 j (by omega)
  · rw [if_neg hb, if_neg hb]
theorem zde_pos {n : Nat} {S : Nat → Nat} (h : zTr n S) (i : Nat) : 1 ≤ zde S n i := by rw [zde_eq h]; omega
theorem zde_lt {n : Nat} {S : Nat → Nat} (h : zTr n S) {i j : Nat} (hj : (S i).testBit j = true) : zde S n j < zde S n i := by
  rw [zde_eq h i]
  have := zmx_ge (fun j => if (S i).testBit j = true then zde S n j else 0) n j (h.ltn hj)
  simp only [hj, if_true] at this
  omega
theorem zde_le {n : Nat} {S : Nat → Nat} (h : zTr n S) : ∀ (m i : Nat), zpc (S i) ≤ m → zde S n i ≤ zpc (S i) + 1 := by
  intro m
  induction m with
  | zero =>
    intro i hi
    rw [zde_eq h]
    have : zmx n (fun j => if (S i).testBit j = true then zde S n j else 0) ≤ zpc (S i) := zmx_le _ _ _ (fun j hj => by
      split
      · rename_i hb
        have := h.dn hb
        omega
      · omega)
    omega
  | succ m ih =>
    intro i hi
    rw [zde_eq h]
    have : zmx n (fun j => if (S i).testBit j = true then zde S n j else 0) ≤ zpc (S i) := zmx_le _ _ _ (fun j hj => by
      split
      · rename_i hb
        have h1 := h.dn hb
        have h2 := ih j (by omega)
        omega
      · omega)
    omega
theorem zpc_full : ∀ n, n ≤ 8 → zpc (2 ^ n - 1) = n := by decide +kernel
theorem zpc_n {n a i : Nat} (hn : n ≤ 8) (ha : a < 2 ^ n) (hi : i < n) (hb : a.testBit i = false) : zpc a < n := by
  have h8 := z28 hn
  have h1 : zpc a < zpc (2 ^ n - 1) := zpc_lt (by omega) (by omega) (fun k hk => by
    rw [Nat.testBit_two_pow_sub_one]
    rcases Nat.lt_or_ge k n with q | q
    · simp [q]
    · rw [zbit_hi ha q] at hk
      cases hk) (k := i) (by rw [Nat.testBit_two_pow_sub_one]; simp [hi]) hb
  rw [zpc_full n hn] at h1
  exact h1
theorem zde_n {n : Nat} {S : Nat → Nat} (h : zTr n S) {i : Nat} (hi : i < n) : zde S n i ≤ n := by
  have h1 := zde_le h _ i (Nat.le_refl _)
  have h2 := zpc_n h.1 (h.2.1 i) hi (h.2.2.1 i)
  omega
/-- the height -/
def zhe (n : Nat) (u : Nat → Nat) : Nat := zmx n (fun i => zde (zov n u) n i)
theorem zup_ne {α : Type} {f : Nat → α} {k j : Nat} {v : α} (h : j ≠ k) : va_up f k v j = f j := by unfold va_up; rw [if_neg h]
theorem zup_eq {α : Type} {f : Nat → α} {k : Nat} {v : α} : va_up f k v k = v := by unfold va_up; rw [if_pos rfl]
theorem zOR.up {I A : zF2} {q n : Nat} {u : Nat → Nat} (h : zOR I A q n u) {p : Nat} {f : Nat → Int32} (hp : 75 ≤ p) : zOR I (va_up A p f) q n u := by
  have hq : q + 4 < 75 := by
    rcases h.1 with ⟨s, hs, rfl⟩ | ⟨s, hs, rfl⟩ <;> omega
  refine ⟨h.1, h.2.1, h.2.2.1, fun b hb => ?_, fun b hb => ?_⟩
  · rw [zup_ne (by omega)]
    exact h.2.2.2.1 b hb
  · rw [zup_ne (by omega)]
    exact h.2.2.2.2 b hb
theorem zcV {X : zX} {d d1 : Nat} {N : zM} {av : List Value} {w : zW} {P : zW → Prop} {K : zW → Prop} (h : zEv X d1 0 0 N av w (fun v w1 => v = none ∧ P w1)) (hd : d1 < d) (k : ∀ w1, P w1 → K w1) : zCallV X d N av w K :=
  ⟨d1, _, hd, h, fun v w1 ⟨e1, e2⟩ => ⟨e1, k w1 e2⟩⟩
theorem zcI2 {X : zX} {d d1 : Nat} {N : zM} {av : List Value} {w : zW} {P : Int32 → zW → Prop} {K : Int32 → zW → Prop} (h : zEv X d1 0 0 N av w (fun v w1 => ∃ x, v = some (.int x) ∧ P x w1)) (hd : d1 < d) (k : ∀ x w1, P x w1 → K x w1) : zCallI X d N av w K :=
  ⟨d1, _, hd, h, fun v w1 ⟨x, e1, e2⟩ => ⟨x, e1, k x w1 e2⟩⟩
section ZD
variable {X : zX} {I A : zF2} {t : zW} {q n : Nat} {u : Nat → Nat}
theorem v_deepest (h : zOR I A q n u) {m : Nat} (hm : m < 2 ^ 31) {D : Nat → Nat} (hD : ∀ j, j < n → A 81 j = nI (D j) ∧ D j ≤ 8) : zRd X 1 MX1_deepest [.ref 80, .ref q, .int (nI m)] (zWd I A t) (nI (zmx n (fun j => if m.testBit j = true then D j else 0))) := by
  have h8 := h.n8
  refine eX1_deepest _ _ _ (bX1_deepest_0 _ _ _ ?_)
  refine zdown (P := fun k => zRn X 1 0 0 MX1_deepest 5 [some (.ref 80), some (.ref q), some (.int (nI m)), some (.int (nI (zmx k (fun j => if m.testBit j = true then D j else 0)))), some (.int (nI k))] [] (zWd I A t) _) (n := n) ?_ (fun k hk ih => ?_) 0 (Nat.zero_le _)
  · refine bX1_deepest_5 _ _ _ _ _ (zvRd h.1.ob (v_size h) (by decide) ?_)
    rw [if_pos (Int32.le_refl _)]
    exact ⟨rfl, rfl⟩
  · refine bX1_deepest_5 _ _ _ _ _ (zvRd h.1.ob (v_size h) (by decide) ?_)
    rw [zi_le (by omega) (by omega), if_neg (by omega), zi_has hm (by omega)]
    rw [zmx_s] at ih
    have hz : zmx k (fun j => if m.testBit j = true then D j else 0) ≤ 8 := zmx_le _ _ _ (fun j hj => by
      have := (hD j (by omega)).2
      show (if m.testBit j = true then D j else 0) ≤ 8
      split <;> omega)
    by_cases hb : m.testBit k = true
    · rw [if_pos hb]
      obtain ⟨e1, e2⟩ := hD k hk
      refine ⟨_, fr_80_0.rd, _, (ar_81.rd (by omega)).trans (by rw [e1]), by decide, bX1_deepest_36 _ _ _ _ _ ?_⟩
      simp only [hb, if_true] at ih
      rw [zi_lt (by omega) (by omega), nI_1]
      split at ih
      · rename_i hc
        rw [if_pos hc]
        exact ih
      · rename_i hc
        rw [if_neg hc]
        exact ih
    · rw [if_neg hb]
      refine bX1_deepest_36 _ _ _ _ _ ?_
      rw [nI_1]
      simp only [hb, if_false, Nat.not_lt_zero, Bool.false_eq_true] at ih
      exact ih
/-- upward: those above; else those below -/
abbrev zS (n : Nat) (u : Nat → Nat) (up : Bool) : Nat → Nat := if up then zov n u else u
theorem zS_tr (h : zPo n u) (up : Bool) : zTr n (zS n u up) := by
  cases up
  · exact zTr.u h
  · exact zTr.o h
theorem zmin_step {n r : Nat} {S D : Nat → Nat} (h : zTr n S) (hr : 1 ≤ r) (hD : ∀ i, i < n → D i ≤ zde S n i ∧ min (zde S n i) r ≤ D i) (k : Nat) : zmx n (fun j => if (S k).testBit j = true then D j else 0) + 1 ≤ zde S n k ∧ min (zde S n k) (r + 1) ≤ zmx n (fun j => if (S k).testBit j = true then D j else 0) + 1 := by
  rw [zde_eq h k]
  constructor
  · have : zmx n (fun j => if (S k).testBit j = true then D j else 0) ≤ zmx n (fun j => if (S k).testBit j = true then zde S n j else 0) := zmx_le _ _ _ (fun j hj => by
      have h1 := zmx_ge (fun j => if (S k).testBit j = true then zde S n j else 0) n j hj
      have h2 := (hD j hj).1
      split
      · rename_i hb
        simp only [hb, if_true] at h1
        omega
      · omega)
    omega
  · rcases zmx_in (fun j => if (S k).testBit j = true then zde S n j else 0) n with h0 | ⟨j, hj, h0⟩
    · omega
    · have h1 := zmx_ge (fun j => if (S k).testBit j = true then D j else 0) n j hj
      have h2 := (hD j hj).2
      by_cases hb : (S k).testBit j = true
      · simp only [hb, if_true] at h0 h1
        omega
      · simp only [hb, if_false, Bool.false_eq_true] at h0
        omega
theorem v_measure (h : zOR I A q n u) (up : Bool) : zEv X 2 0 0 MX1_measure [.ref 80, .ref q, .int (zB up)] (zWd I A t) (fun v w1 => v = none ∧ ∃ D, w1 = zWd I (va_up A 81 D) t ∧ ∀ i, i < n → D i = nI (zde (zS n u up) n i)) := by
  have h8 := h.n8
  have hT := zS_tr h.2.1 up
  refine eX1_measure _ _ _ (bX1_measure_0 _ _ _ ?_)
  have inner : ∀ (r : Nat), 1 ≤ r → r < n → (∀ (E : Nat → Nat) (D : Nat → Int32), (∀ i, i < n → D i = nI (E i)) → (∀ i, i < n → E i ≤ zde (zS n u up) n i ∧ min (zde (zS n u up) n i) (r + 1) ≤ E i) → zRn X 2 0 0 MX1_measure 23 [some (.ref 80), some (.ref q), some (.int (zB up)), some (.int (nI (r + 1))), none] [] (zWd I (va_up A 81 D) t) (fun v w1 => v = none ∧ ∃ D, w1 = zWd I (va_up A 81 D) t ∧ ∀ i, i < n → D i = nI (zde (zS n u up) n i))) →
      ∀ k, k ≤ n → ∀ (E : Nat → Nat) (D : Nat → Int32), (∀ i, i < n → D i = nI (E i)) → (∀ i, i < n → E i ≤ zde (zS n u up) n i ∧ min (zde (zS n u up) n i) (if i < k then r + 1 else r) ≤ E i) → zRn X 2 0 0 MX1_measure 34 [some (.ref 80), some (.ref q), some (.int (zB up)), some (.int (nI r)), some (.int (nI k))] [] (zWd I (va_up A 81 D) t) (fun v w1 => v = none ∧ ∃ D, w1 = zWd I (va_up A 81 D) t ∧ ∀ i, i < n → D i = nI (zde (zS n u up) n i)) := by
    intro r hr1 hrn hnext
    refine zdown ?_ ?_
    · intro E D hED hI
      have hO := h.up (p := 81) (f := D) (by decide)
      refine bX1_measure_34 _ _ _ _ _ (zvRd h.1.ob (v_size hO) (by decide) ?_)
      rw [if_pos (Int32.le_refl _), nI_1]
      refine hnext E D hED (fun i hi => ?_)
      have := hI i hi
      rw [if_pos hi] at this
      exact this
    · intro k hk ih E D hED hI
      have hO := h.up (p := 81) (f := D) (by decide)
      have hE8 : ∀ i, i < n → E i ≤ 8 := fun i hi => by
        have h1 := (hI i hi).1
        have h2 := zde_n hT hi
        omega
      have hI' : ∀ i, i < n → E i ≤ zde (zS n u up) n i ∧ min (zde (zS n u up) n i) r ≤ E i := fun i hi => by
        have := hI i hi
        refine ⟨this.1, ?_⟩
        have h2 := this.2
        split at h2 <;> omega
      have hst := zmin_step hT hr1 hI' k
      have go : ∀ (m : Nat), m < 2 ^ 31 → m = zS n u up k → zRn X 2 0 0 MX1_measure 71 [some (.ref 80), some (.ref q), some (.int (zB up)), some (.int (nI r)), some (.int (nI k))] [.int (nI m), .ref q, .ref 80, .int 1, .int (nI k), .ref 81] (zWd I (va_up A 81 D) t) (fun v w1 => v = none ∧ ∃ D, w1 = zWd I (va_up A 81 D) t ∧ ∀ i, i < n → D i = nI (zde (zS n u up) n i)) := by
        intro m hm em
        refine bX1_measure_71 _ _ _ _ _ _ _ _ _ _ _ (zvRd ob_80 (v_deepest hO hm (D := E) (fun j hj => ⟨by rw [zup_eq]; exact hED j hj, hE8 j hj⟩)) (by decide) ⟨_, ar_81.wr (by omega), ?_⟩)
        rw [bx_uu, nI_1]
        rw [zup_eq]
        subst em
        refine ih (va_up E k (zmx n (fun j => if (zS n u up k).testBit j = true then E j else 0) + 1)) _ (fun i hi => ?_) (fun i hi => ?_)
        · unfold upd va_up
          by_cases hik : i = k
          · rw [if_pos hik, if_pos hik]
            show nI 1 + nI _ = _
            rw [nI_add, Nat.add_comm]
          · rw [if_neg hik, if_neg hik]
            exact hED i hi
        · unfold va_up
          by_cases hik : i = k
          · subst hik
            rw [if_pos rfl, if_pos (by omega)]
            exact hst
          · rw [if_neg hik]
            have := hI i hi
            by_cases hlt : i < k
            · rw [if_pos hlt] at this
              rw [if_pos (by omega)]
              exact this
            · rw [if_neg hlt] at this
              rw [if_neg (by omega)]
              exact this
      refine bX1_measure_34 _ _ _ _ _ (zvRd h.1.ob (v_size hO) (by decide) ?_)
      rw [zi_le (by omega) (by omega), if_neg (by omega)]
      refine ⟨_, fr_80_0.rd, ?_⟩
      have hu := h.2.1.u31 k
      have ho := zov_lt n u k
      have h28 := z28 h8
      rw [zB_if]
      cases up
      · rw [if_neg (by simp)]
        exact zvRd h.1.ob (v_belowOf hO (by omega)) (by decide) (go _ (by omega) rfl)
      · rw [if_pos rfl]
        exact zvRd h.1.ob (v_aboveOf hO (by omega)) (by decide) (go _ (by omega) rfl)
  have outer : ∀ (r : Nat), r ≤ max n 1 → 1 ≤ r → ∀ (E : Nat → Nat) (D : Nat → Int32), (∀ i, i < n → D i = nI (E i)) → (∀ i, i < n → E i ≤ zde (zS n u up) n i ∧ min (zde (zS n u up) n i) r ≤ E i) → zRn X 2 0 0 MX1_measure 23 [some (.ref 80), some (.ref q), some (.int (zB up)), some (.int (nI r)), none] [] (zWd I (va_up A 81 D) t) (fun v w1 => v = none ∧ ∃ D, w1 = zWd I (va_up A 81 D) t ∧ ∀ i, i < n → D i = nI (zde (zS n u up) n i)) := by
    refine zdown ?_ ?_
    · intro _ E D hED hI
      have hO := h.up (p := 81) (f := D) (by decide)
      refine bX1_measure_23 _ _ _ _ (zvRd h.1.ob (v_size hO) (by decide) ?_)
      rw [zi_le (by omega) (by omega), if_pos (by omega)]
      refine ⟨rfl, D, rfl, fun i hi => ?_⟩
      rw [hED i hi]
      have h1 := hI i hi
      have h2 := zde_n hT hi
      congr 1
      omega
    · intro r hr ih hr1 E D hED hI
      have hO := h.up (p := 81) (f := D) (by decide)
      refine bX1_measure_23 _ _ _ _ (zvRd h.1.ob (v_size hO) (by decide) ?_)
      by_cases hrn : n ≤ r
      · omega
      · rw [zi_le (by omega) (by omega), if_neg hrn]
        refine inner r hr1 (by omega) (fun E D h1 h2 => ih (by omega) E D h1 h2) 0 (Nat.zero_le _) E D hED (fun i hi => ?_)
        rw [if_neg (Nat.not_lt_zero _)]
        exact hI i hi
  have fill : ∀ k, k ≤ 8 → ∀ (D : Nat → Int32), (∀ i, i < k → D i = 1) → zRn X 2 0 0 MX1_measure 2 [some (.ref 80), some (.ref q), some (.int (zB up)), some (.int (nI k)), none] [] (zWd I (va_up A 81 D) t) (fun v w1 => v = none ∧ ∃ D, w1 = zWd I (va_up A 81 D) t ∧ ∀ i, i < n → D i = nI (zde (zS n u up) n i)) := by
    refine zdown ?_ ?_
    · intro D hD
      refine bX1_measure_2 _ _ _ _ ?_
      rw [if_pos (show (8 : Int32) ≤ nI 8 from Int32.le_refl _)]
      refine outer 1 (by omega) (Nat.le_refl _) (fun _ => 1) D (fun i hi => hD i (by omega)) (fun i hi => ?_)
      have := zde_pos hT i
      exact ⟨this, by omega⟩
    · intro k hk ih D hD
      refine bX1_measure_2 _ _ _ _ ?_
      have e : ¬ (8 : Int32) ≤ nI k := by
        show ¬ nI 8 ≤ nI k
        rw [zb_le (by decide) (by omega)]
        omega
      rw [if_neg e]
      refine ⟨_, fr_80_0.rd, _, ar_81.wr (by omega), ?_⟩
      rw [bx_uu, nI_1, zup_eq]
      refine ih _ (fun i hi => ?_)
      unfold upd
      by_cases hik : i = k
      · rw [if_pos hik]
      · rw [if_neg hik]
        exact hD i (by omega)
  have h0 := fill 0 (Nat.zero_le _) (A 81) (fun i hi => absurd hi (Nat.not_lt_zero _))
  rw [zup_self] at h0
  exact h0
end ZD
