/-! ===== loops that end at the first no (yes); sets of things ===== -/
def zall (n : Nat) (p : Nat → Bool) : Bool := decide (∀ a, a < n → p a = true)
def zany (n : Nat) (p : Nat → Bool) : Bool := decide (∃ a, a < n ∧ p a = true)
theorem zall_iff {n : Nat} {p : Nat → Bool} : zall n p = true ↔ ∀ a, a < n → p a = true := decide_eq_true_iff
theorem zany_iff {n : Nat} {p : Nat → Bool} : zany n p = true ↔ ∃ a, a < n ∧ p a = true := decide_eq_true_iff
theorem zall_no {n : Nat} {p : Nat → Bool} {k : Nat} (hk : k < n) (h : p k = false) : zall n p = false := decide_eq_false (fun q => by rw [q k hk] at h; cases h)
theorem zany_yes {n : Nat} {p : Nat → Bool} {k : Nat} (hk : k < n) (h : p k = true) : zany n p = true := decide_eq_true ⟨k, hk, h⟩
theorem zloopA {n : Nat} {p : Nat → Bool} {R : Nat → Bool → Prop} (hx : R n true) (hs : ∀ k, k < n → ∀ b, (p k = true → R (k + 1) b) → (p k = false → b = false) → R k b) : R 0 (zall n p) := by
  have key := zdown (P := fun k => (∀ a, a < k → p a = true) → R k (zall n p)) (n := n) (fun h => by
    have : zall n p = true := zall_iff.mpr h
    rw [this]
    exact hx) (fun k hk ih hp => hs k hk _ (fun h => ih (fun a ha => by
      rcases Nat.lt_or_ge a k with q | q
      · exact hp a q
      · have : a = k := by omega
        subst this
        exact h)) (fun h => zall_no hk h))
  exact key 0 (Nat.zero_le _) (fun a ha => absurd ha (Nat.not_lt_zero _))
theorem zloopE {n : Nat} {p : Nat → Bool} {R : Nat → Bool → Prop} (hx : R n false) (hs : ∀ k, k < n → ∀ b, (p k = false → R (k + 1) b) → (p k = true → b = true) → R k b) : R 0 (zany n p) := by
  have key := zdown (P := fun k => (∀ a, a < k → p a = false) → R k (zany n p)) (n := n) (fun h => by
    have : zany n p = false := decide_eq_false (fun ⟨a, h1, h2⟩ => by rw [h a h1] at h2; cases h2)
    rw [this]
    exact hx) (fun k hk ih hp => hs k hk _ (fun h => ih (fun a ha => by
      rcases Nat.lt_or_ge a k with q | q
      · exact hp a q
      · have : a = k := by omega
        subst this
        exact h)) (fun h => zany_yes hk h))
  exact key 0 (Nat.zero_le _) (fun a ha => absurd ha (Nat.not_lt_zero _))
/-- all free of one another -/
def zan (n : Nat) (u : Nat → Nat) (s : Nat) : Bool := zall n (fun a => !s.testBit a || decide (u a &&& s = 0))
/-- the widest set of things free of one another: the first of the most -/
def zwiF (n : Nat) (u : Nat → Nat) : Nat → Nat := zit (fun j x => if zpc x < zpc (j + 1) ∧ zan n u (j + 1) = true then j + 1 else x) 0
def zwi (n : Nat) (u : Nat → Nat) : Nat := zwiF n u (2 ^ n - 1)
theorem zwiF_le (n : Nat) (u : Nat → Nat) : ∀ k, zwiF n u k ≤ k
  | 0 => Nat.le_refl _
  | k + 1 => by
    have ih := zwiF_le n u k
    show (if zpc (zwiF n u k) < zpc (k + 1) ∧ zan n u (k + 1) = true then k + 1 else zwiF n u k) ≤ k + 1
    split <;> omega
theorem zwi_lt (n : Nat) (u : Nat → Nat) : zwi n u < 2 ^ n := by
  have := zwiF_le n u (2 ^ n - 1)
  have h1 := Nat.one_le_two_pow (n := n)
  unfold zwi
  omega
/-- how many beginnings there are -/
def ziC (n : Nat) (u : Nat → Nat) : Nat → Nat := zit (fun s x => if zid n u s = true then x + 1 else x) 0
section ZS1
variable {X : zX} {I A : zF2} {t : zW} {q n : Nat} {u : Nat → Nat}
theorem v_isFreeSet (h : zOR I A q n u) {s : Nat} (hs : s < 2 ^ 31) : zRd X 2 MX10_isFreeSet [.ref q, .int (nI s)] (zWd I A t) (zB (zan n u s)) := by
  have h8 := h.n8
  refine eX10_isFreeSet _ _ (bX10_isFreeSet_0 _ _ ?_)
  refine zloopA (R := fun k b => zRn X 2 0 0 MX10_isFreeSet 2 [some (.ref q), some (.int (nI s)), some (.int (nI k))] [] (zWd I A t) (fun v w1 => v = some (.int (zB b)) ∧ w1 = zWd I A t)) ?_ (fun k hk b h1 h2 => ?_)
  · refine bX10_isFreeSet_2 _ _ _ (zvRd h.1.ob (v_size h) (by decide) ?_)
    rw [if_pos (Int32.le_refl _)]
    exact ⟨rfl, rfl⟩
  · refine bX10_isFreeSet_2 _ _ _ (zvRd h.1.ob (v_size h) (by decide) ?_)
    rw [zi_le (by omega) (by omega), if_neg (by omega), zi_has hs (by omega)]
    by_cases hb : s.testBit k = true
    · rw [if_pos hb]
      refine zvRd h.1.ob (v_belowOf h (by omega)) (by decide) ?_
      have hu := h.2.1.u31 k
      have : u k &&& s ≤ u k := Nat.and_le_left
      rw [zb_and, zi_0 (by omega)]
      by_cases h0 : u k &&& s = 0
      · rw [if_pos h0]
        refine bX10_isFreeSet_31 _ _ _ ?_
        rw [nI_1]
        exact h1 (by simp [h0])
      · rw [if_neg h0]
        rw [h2 (by simp [h0, hb])]
        exact ⟨rfl, rfl⟩
    · rw [if_neg hb]
      refine bX10_isFreeSet_31 _ _ _ ?_
      rw [nI_1]
      exact h1 (by simp [hb])
theorem v_widest (h : zOR I A q n u) : zRd X 3 MX10_widest [.ref q] (zWd I A t) (nI (zwi n u)) := by
  have h8 := h.n8
  have h28 := z28 h8
  have hp1 := Nat.one_le_two_pow (n := n)
  refine eX10_widest _ (bX10_widest_0 _ ?_)
  refine zdown (P := fun k => zRn X 3 0 0 MX10_widest 4 [some (.ref q), some (.int (nI (zwiF n u k))), some (.int (nI (k + 1)))] [] (zWd I A t) _) (n := 2 ^ n - 1) ?_ (fun k hk ih => ?_) 0 (Nat.zero_le _)
  · refine bX10_widest_4 _ _ _ (zvRd h.1.ob (v_all h) (by decide) ?_)
    rw [zi_lt (by omega) (by omega), if_pos (by omega)]
    exact ⟨rfl, rfl⟩
  · have hle := zwiF_le n u k
    refine bX10_widest_4 _ _ _ (zvRd h.1.ob (v_all h) (by decide) ?_)
    rw [zi_lt (by omega) (by omega), if_neg (by omega)]
    refine zcRd (v_bc (by omega)) (by decide) (zcRd (v_bc (by omega)) (by decide) ?_)
    have hpc : ∀ m, zpc m ≤ 8 := fun m => by
      unfold zpc
      exact Nat.le_trans (List.length_filter_le _ _) (by simp)
    have p1 := hpc (k + 1)
    have p2 := hpc (zwiF n u k)
    have e : zwiF n u (k + 1) = if zpc (zwiF n u k) < zpc (k + 1) ∧ zan n u (k + 1) = true then k + 1 else zwiF n u k := rfl
    rw [e] at ih
    rw [zi_le (by omega) (by omega)]
    by_cases hc : zpc (k + 1) ≤ zpc (zwiF n u k)
    · rw [if_pos hc]
      rw [if_neg (by omega)] at ih
      refine bX10_widest_33 _ _ _ ?_
      rw [nI_1]
      exact ih
    · rw [if_neg hc]
      refine zcRd (v_isFreeSet h (by omega)) (by decide) ?_
      rw [zB_if]
      by_cases ha : zan n u (k + 1) = true
      · rw [if_pos ha]
        rw [if_pos ⟨by omega, ha⟩] at ih
        refine bX10_widest_33 _ _ _ ?_
        rw [nI_1]
        exact ih
      · rw [if_neg ha]
        rw [if_neg (fun z => ha z.2)] at ih
        refine bX10_widest_33 _ _ _ ?_
        rw [nI_1]
        exact ih
theorem v_ideals (h : zOR I A q n u) : zRd X 1 MX10_ideals [.ref q] (zWd I A t) (nI (ziC n u (2 ^ n))) := by
  have h8 := h.n8
  have h28 := z28 h8
  have hp1 := Nat.one_le_two_pow (n := n)
  refine eX10_ideals _ (bX10_ideals_0 _ ?_)
  refine zdown (P := fun k => zRn X 1 0 0 MX10_ideals 4 [some (.ref q), some (.int (nI (ziC n u k))), some (.int (nI k))] [] (zWd I A t) _) (n := 2 ^ n) ?_ (fun k hk ih => ?_) 0 (Nat.zero_le _)
  · refine bX10_ideals_4 _ _ _ (zvRd h.1.ob (v_all h) (by decide) ?_)
    rw [zi_lt (by omega) (by omega), if_pos (by omega)]
    exact ⟨rfl, rfl⟩
  · refine bX10_ideals_4 _ _ _ (zvRd h.1.ob (v_all h) (by decide) ?_)
    rw [zi_lt (by omega) (by omega), if_neg (by omega)]
    refine zvRd h.1.ob (v_isIdeal h (by omega)) (by decide) ?_
    have e : ziC n u (k + 1) = if zid n u k = true then ziC n u k + 1 else ziC n u k := rfl
    rw [e] at ih
    rw [zB_if]
    by_cases hc : zid n u k = true
    · rw [if_pos hc]
      rw [if_pos hc] at ih
      refine bX10_ideals_23 _ _ _ ?_
      rw [nI_1, nI_1]
      exact ih
    · rw [if_neg hc]
      rw [if_neg hc] at ih
      refine bX10_ideals_23 _ _ _ ?_
      rw [nI_1]
      exact ih
end ZS1
section ZS2
variable {X : zX} {I A : zF2} {t : zW} {s n R : Nat} {u : Nat → Nat} {h : Nat → Nat → Nat}
theorem m_isAnti (H : zMR A s n u R h) {m : Nat} (hm : m < 2 ^ 31) : zRd X 2 MX12_isAnti [.ref 98, .int (nI s), .int (nI m)] (zWd I A t) (zB (zan n u m)) := by
  have h8 := H.2.1.1
  refine eX12_isAnti _ _ _ (bX12_isAnti_0 _ _ _ ?_)
  refine zloopA (R := fun k b => zRn X 2 0 0 MX12_isAnti 2 [some (.ref 98), some (.int (nI s)), some (.int (nI m)), some (.int (nI k))] [] (zWd I A t) (fun v w1 => v = some (.int (zB b)) ∧ w1 = zWd I A t)) ?_ (fun k hk b h1 h2 => ?_)
  · refine bX12_isAnti_2 _ _ _ _ (zvRd ob_98 (m_many H) (by decide) ?_)
    rw [if_pos (Int32.le_refl _)]
    exact ⟨rfl, rfl⟩
  · refine bX12_isAnti_2 _ _ _ _ (zvRd ob_98 (m_many H) (by decide) ?_)
    rw [zi_le (by omega) (by omega), if_neg (by omega)]
    refine zcRd (m_has hm (by omega)) (by decide) ?_
    rw [zB_if]
    by_cases hb : m.testBit k = true
    · rw [if_pos hb]
      refine zvRd ob_98 (m_under H (by omega)) (by decide) ?_
      have hu := H.2.1.u31 k
      have : u k &&& m ≤ u k := Nat.and_le_left
      rw [zb_and, zi_0 (by omega)]
      by_cases h0 : u k &&& m = 0
      · rw [if_pos h0]
        refine bX12_isAnti_32 _ _ _ _ ?_
        rw [nI_1]
        exact h1 (by simp [h0])
      · rw [if_neg h0]
        rw [h2 (by simp [h0, hb])]
        exact ⟨rfl, rfl⟩
    · rw [if_neg hb]
      refine bX12_isAnti_32 _ _ _ _ ?_
      rw [nI_1]
      exact h1 (by simp [hb])
theorem zid_all (n : Nat) (u : Nat → Nat) (m : Nat) : zid n u m = zall n (fun a => !m.testBit a || decide (zdf (u a) m = 0)) := by
  unfold zid zall
  apply decide_eq_decide.mpr
  constructor
  · intro h a ha
    cases hb : m.testBit a
    · simp [hb]
    · simp [h a ha hb]
  · intro h a ha hb
    have := h a ha
    simpa [hb] using this
theorem m_isIdeal (H : zMR A s n u R h) {m : Nat} (hm : m < 2 ^ 31) : zRd X 2 MX12_isIdeal [.ref 98, .int (nI s), .int (nI m)] (zWd I A t) (zB (zid n u m)) := by
  have h8 := H.2.1.1
  rw [zid_all]
  refine eX12_isIdeal _ _ _ (bX12_isIdeal_0 _ _ _ ?_)
  refine zloopA (R := fun k b => zRn X 2 0 0 MX12_isIdeal 2 [some (.ref 98), some (.int (nI s)), some (.int (nI m)), some (.int (nI k))] [] (zWd I A t) (fun v w1 => v = some (.int (zB b)) ∧ w1 = zWd I A t)) ?_ (fun k hk b h1 h2 => ?_)
  · refine bX12_isIdeal_2 _ _ _ _ (zvRd ob_98 (m_many H) (by decide) ?_)
    rw [if_pos (Int32.le_refl _)]
    exact ⟨rfl, rfl⟩
  · refine bX12_isIdeal_2 _ _ _ _ (zvRd ob_98 (m_many H) (by decide) ?_)
    rw [zi_le (by omega) (by omega), if_neg (by omega)]
    refine zcRd (m_has hm (by omega)) (by decide) ?_
    rw [zB_if]
    by_cases hb : m.testBit k = true
    · rw [if_pos hb]
      refine zvRd ob_98 (m_under H (by omega)) (by decide) ?_
      have hz : zdf (u k) m < 2 ^ 8 := zdf_lt (H.2.1.u31 k)
      rw [zb_df, zi_0 (by omega)]
      by_cases h0 : zdf (u k) m = 0
      · rw [if_pos h0]
        refine bX12_isIdeal_34 _ _ _ _ ?_
        rw [nI_1]
        exact h1 (by simp [h0])
      · rw [if_neg h0]
        rw [h2 (by simp [h0, hb])]
        exact ⟨rfl, rfl⟩
    · rw [if_neg hb]
      refine bX12_isIdeal_34 _ _ _ _ ?_
      rw [nI_1]
      exact h1 (by simp [hb])
theorem zpc8 (m : Nat) : zpc m ≤ 8 := by
  unfold zpc
  exact Nat.le_trans (List.length_filter_le _ _) (by simp)
theorem m_antiOf (H : zMR A s n u R h) : zRd X 3 MX12_antiOf [.ref 98, .int (nI s)] (zWd I A t) (nI (zwi n u)) := by
  have h8 := H.2.1.1
  have h28 := z28 h8
  have hp1 := Nat.one_le_two_pow (n := n)
  refine eX12_antiOf _ _ (bX12_antiOf_0 _ _ ?_)
  refine zdown (P := fun k => zRn X 3 0 0 MX12_antiOf 4 [some (.ref 98), some (.int (nI s)), some (.int (nI (zwiF n u k))), some (.int (nI (k + 1)))] [] (zWd I A t) _) (n := 2 ^ n - 1) ?_ (fun k hk ih => ?_) 0 (Nat.zero_le _)
  · refine bX12_antiOf_4 _ _ _ _ (zvRd ob_98 (m_many H) (by decide) ?_)
    rw [zb_1 n (by omega), zi_le (by omega) (by omega), if_pos (by omega)]
    exact ⟨rfl, rfl⟩
  · have hle := zwiF_le n u k
    refine bX12_antiOf_4 _ _ _ _ (zvRd ob_98 (m_many H) (by decide) ?_)
    rw [zb_1 n (by omega), zi_le (by omega) (by omega), if_neg (by omega)]
    refine zcRd (m_ones (by omega)) (by decide) (zcRd (m_ones (by omega)) (by decide) ?_)
    have p1 := zpc8 (k + 1)
    have p2 := zpc8 (zwiF n u k)
    have e : zwiF n u (k + 1) = if zpc (zwiF n u k) < zpc (k + 1) ∧ zan n u (k + 1) = true then k + 1 else zwiF n u k := rfl
    rw [e] at ih
    rw [zi_le (by omega) (by omega)]
    by_cases hc : zpc (k + 1) ≤ zpc (zwiF n u k)
    · rw [if_pos hc]
      rw [if_neg (by omega)] at ih
      refine bX12_antiOf_39 _ _ _ _ (bX12_antiOf_40 _ _ _ _ ?_)
      rw [nI_1]
      exact ih
    · rw [if_neg hc]
      refine zvRd ob_98 (m_isAnti H (by omega)) (by decide) ?_
      rw [zB_if]
      by_cases ha : zan n u (k + 1) = true
      · rw [if_pos ha]
        rw [if_pos ⟨by omega, ha⟩] at ih
        refine bX12_antiOf_40 _ _ _ _ ?_
        rw [nI_1]
        exact ih
      · rw [if_neg ha]
        rw [if_neg (fun z => ha z.2)] at ih
        refine bX12_antiOf_39 _ _ _ _ (bX12_antiOf_40 _ _ _ _ ?_)
        rw [nI_1]
        exact ih
end ZS2
