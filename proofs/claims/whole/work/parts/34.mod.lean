/-! ===== the reference: its simplest reads ===== -/
/-- rows of an order: R of them, h r i the thing at place i of row r; nothing beside them -/
def zHo (n R : Nat) (h : Nat → Nat → Nat) : Prop := R ≤ 6 ∧ (∀ r i, r < R → i < n → h r i < n) ∧ (∀ r i j, r < R → i < n → j < n → h r i = h r j → i = j) ∧ ∀ r i, (R ≤ r ∨ n ≤ i) → h r i = 0
/-- slot s of the reference -/
def zMR (A : zF2) (s n : Nat) (u : Nat → Nat) (R : Nat) (h : Nat → Nat → Nat) : Prop := s < 3 ∧ zPo n u ∧ zHo n R h ∧ A 99 (58 * s) = nI n ∧ (∀ b, b < 8 → A 99 (58 * s + 1 + b) = nI (u b)) ∧ A 99 (58 * s + 9) = nI R ∧ ∀ r i, r < 6 → i < 8 → A 99 (58 * s + 10 + 8 * r + i) = nI (h r i)
theorem lg_lt (x y : Int64) : (lg_cmp x y < 0) = (x < y) := by
  unfold lg_cmp
  apply propext
  split
  · rename_i h
    have : ¬ x < y := Int64.not_lt.mpr (Int64.le_of_lt h)
    simp [this]
  · split
    · rename_i h
      subst h
      have := Int64.lt_irrefl (a := x)
      simp
    · rename_i h1 h2
      have : x < y := by
        have h3 := Int64.not_lt.mp h1
        rcases Int64.lt_or_eq_of_le h3 with q | q
        · exact q
        · exact absurd q h2
      simp [this]
theorem lg_gt (x y : Int64) : (0 < lg_cmp x y) = (y < x) := by
  unfold lg_cmp
  apply propext
  split
  · rename_i h
    simp [h]
  · rename_i h
    split <;> simp_all
section ZMo
variable {X : zX} {I A : zF2} {t : zW} {w : zW} {s n R : Nat} {u : Nat → Nat} {h : Nat → Nat → Nat}
theorem m_in (x y z : Int64) : zRd X 0 MX12_in [.long x, .long y, .long z] w (zB (decide (¬ x < y ∧ ¬ z < x))) := by
  refine eX12_in _ _ _ (bX12_in_0 _ _ _ ?_)
  rw [zif (by rw [lg_lt]), zif (show 0 < lg_cmp x z ↔ z < x by rw [lg_gt])]
  by_cases h1 : x < y
  · rw [if_pos h1]
    exact ⟨by simp [h1, zB], rfl⟩
  · rw [if_neg h1]
    by_cases h2 : z < x
    · rw [if_pos h2]
      exact ⟨by simp [h2, zB], rfl⟩
    · rw [if_neg h2]
      exact ⟨by simp [h1, h2, zB], rfl⟩
theorem wide_lt (a b : Int32) : a.toInt64 < b.toInt64 ↔ a < b := by
  rw [Int64.lt_iff_toInt_lt, Int32.lt_iff_toInt_lt, Int32.toInt_toInt64, Int32.toInt_toInt64]
/-- x in 0 .. m - 1 -/
theorem m_in0 (x : Int32) {m : Nat} (hm : m < 2 ^ 31) : zRd X 0 MX12_in [.long x.toInt64, .long 0, .long (nI m).toInt64] w (zB (decide (¬ x < 0 ∧ ¬ nI m < x))) := by
  have h1 := m_in (X := X) (w := w) x.toInt64 (0 : Int32).toInt64 (nI m).toInt64
  have e : decide (¬ x.toInt64 < (0 : Int32).toInt64 ∧ ¬ (nI m).toInt64 < x.toInt64) = decide (¬ x < 0 ∧ ¬ nI m < x) := by
    simp only [wide_lt]
  rw [e] at h1
  exact h1
theorem m_has {a k : Nat} (ha : a < 2 ^ 31) (hk : k < 32) : zRd X 0 MX12_has [.int (nI a), .int (nI k)] w (zB (a.testBit k)) := by
  refine eX12_has _ _ (bX12_has_0 _ _ ?_)
  rw [zi_has ha hk]
  cases a.testBit k <;> exact ⟨rfl, rfl⟩
theorem m_isSlot (x : Int32) : zRd X 1 MX12_isSlot [.int x] w (zB (decide (¬ x < 0 ∧ ¬ nI 2 < x))) := by
  refine eX12_isSlot _ (bX12_isSlot_0 _ (zcRd (m_in0 x (m := 2) (by decide)) (by decide) ⟨zB_ok _, rfl, rfl⟩))
theorem m_of {k : Nat} (hs : s < 3) (hk : k < 58) : zRd X 0 MX12_of [.ref 98, .int (nI s), .int (nI k)] (zWd I A t) (A 99 (58 * s + k)) := by
  refine eX12_of _ _ _ (bX12_of_0 _ _ _ ⟨_, fr_98_0.rd, _, ?_, rfl, rfl⟩)
  show zaI _ _ (nI 58 * nI s + nI k) = _
  rw [pk_mul, nI_add]
  exact ar_99.rd (by omega)
theorem m_many (H : zMR A s n u R h) : zRd X 1 MX12_many [.ref 98, .int (nI s)] (zWd I A t) (nI n) := by
  have h1 := m_of (X := X) (I := I) (A := A) (t := t) H.1 (k := 0) (by decide)
  rw [Nat.add_zero, H.2.2.2.1] at h1
  exact eX12_many _ _ (bX12_many_0 _ _ (zvRd ob_98 h1 (by decide) ⟨rfl, rfl⟩))
theorem m_rows (H : zMR A s n u R h) : zRd X 1 MX12_rows [.ref 98, .int (nI s)] (zWd I A t) (nI R) := by
  have h1 := m_of (X := X) (I := I) (A := A) (t := t) H.1 (k := 9) (by decide)
  rw [H.2.2.2.2.2.1] at h1
  exact eX12_rows _ _ (bX12_rows_0 _ _ (zvRd ob_98 h1 (by decide) ⟨rfl, rfl⟩))
theorem m_under (H : zMR A s n u R h) {b : Nat} (hb : b < 8) : zRd X 1 MX12_under [.ref 98, .int (nI s), .int (nI b)] (zWd I A t) (nI (u b)) := by
  have h1 := m_of (X := X) (I := I) (A := A) (t := t) H.1 (k := 1 + b) (by omega)
  rw [← Nat.add_assoc, H.2.2.2.2.1 b hb] at h1
  refine eX12_under _ _ _ (bX12_under_0 _ _ _ (zvRd ob_98 (d1 := 0) ?_ (by decide) ⟨rfl, rfl⟩))
  show zRd X 0 MX12_of [.ref 98, .int (nI s), .int (nI 1 + nI b)] _ _
  rw [nI_add]
  exact h1
theorem m_rowAt (H : zMR A s n u R h) {r i : Nat} (hr : r < 6) (hi : i < 8) : zRd X 1 MX12_rowAt [.ref 98, .int (nI s), .int (nI r), .int (nI i)] (zWd I A t) (nI (h r i)) := by
  have h1 := m_of (X := X) (I := I) (A := A) (t := t) H.1 (k := 10 + 8 * r + i) (by omega)
  rw [show 58 * s + (10 + 8 * r + i) = 58 * s + 10 + 8 * r + i by omega, H.2.2.2.2.2.2 r i hr hi] at h1
  refine eX12_rowAt _ _ _ _ (bX12_rowAt_0 _ _ _ _ (zvRd ob_98 (d1 := 0) ?_ (by decide) ⟨rfl, rfl⟩))
  show zRd X 0 MX12_of [.ref 98, .int (nI s), .int (nI 10 + nI 8 * nI r + nI i)] _ _
  rw [pk_mul, nI_add, nI_add]
  exact h1
theorem m_isOrderS (H : zMR A s n u R h) : zRd X 2 MX12_isOrder [.ref 98, .int (nI s)] (zWd I A t) (zB (decide (0 < n))) := by
  have hs := H.1
  have h8 := H.2.1.1
  refine eX12_isOrder _ _ (bX12_isOrder_0 _ _ (zcRd (m_isSlot _) (by decide) ?_))
  have e : (¬ nI s < 0 ∧ ¬ nI 2 < nI s) := ⟨nI_pos (by omega), by rw [zb_lt (by decide) (by omega)]; omega⟩
  rw [zB_ifP, if_pos e]
  refine zvRd ob_98 (m_many H) (by decide) ?_
  show if nI n ≤ nI 0 then _ else _
  rw [zi_le (by omega) (by decide)]
  by_cases h0 : n ≤ 0
  · rw [if_pos h0]
    exact ⟨by simp [zB]; omega, rfl⟩
  · rw [if_neg h0]
    exact ⟨by simp [zB]; omega, rfl⟩
theorem m_isOrderN {x : Int32} (hx : ¬ ∃ s, s < 3 ∧ x = nI s) : zRd X 2 MX12_isOrder [.ref 98, .int x] (zWd I A t) 0 := by
  refine eX12_isOrder _ _ (bX12_isOrder_0 _ _ (zcRd (m_isSlot _) (by decide) ?_))
  have e : ¬ (¬ x < 0 ∧ ¬ nI 2 < x) := by
    rintro ⟨h1, h2⟩
    obtain ⟨j, hj, rfl⟩ := nI_of2 (M := nI 2) (n := 2) rfl h1 (Int32.not_lt.mp h2)
    exact hx ⟨j, by omega, rfl⟩
  rw [zB_ifP, if_neg e]
  exact ⟨rfl, rfl⟩
theorem m_isBelow (H : zMR A s n u R h) {a b : Nat} (ha : a < 32) (hb : b < 8) : zRd X 2 MX12_isBelow [.ref 98, .int (nI s), .int (nI a), .int (nI b)] (zWd I A t) (zB (zlt u a b)) := by
  have := H.2.1.u31 b
  exact eX12_isBelow _ _ _ _ (bX12_isBelow_0 _ _ _ _ (zvRd ob_98 (m_under H hb) (by decide) (zcRd (m_has (by omega) ha) (by decide) ⟨zB_ok _, rfl, rfl⟩)))
/-- free of one another -/
def zfe (u : Nat → Nat) (a b : Nat) : Bool := !decide (a = b) && !zlt u a b && !zlt u b a
theorem m_areFree (H : zMR A s n u R h) {a b : Nat} (ha : a < 8) (hb : b < 8) : zRd X 3 MX12_areFree [.ref 98, .int (nI s), .int (nI a), .int (nI b)] (zWd I A t) (zB (zfe u a b)) := by
  refine eX12_areFree _ _ _ _ (bX12_areFree_0 _ _ _ _ ?_)
  rw [zi_eq (by omega) (by omega)]
  unfold zfe
  by_cases hab : a = b
  · rw [if_pos hab]
    exact ⟨by simp [hab, zB], rfl⟩
  · rw [if_neg hab]
    refine zvRd ob_98 (m_isBelow H (by omega) hb) (by decide) ?_
    rw [zB_if]
    cases h1 : zlt u a b
    · rw [if_neg (by simp)]
      refine zvRd ob_98 (m_isBelow H (by omega) ha) (by decide) ?_
      rw [zB_if]
      cases h2 : zlt u b a
      · rw [if_neg (by simp)]
        exact ⟨by simp [hab, zB], rfl⟩
      · rw [if_pos rfl]
        exact ⟨by simp [zB], rfl⟩
    · rw [if_pos rfl]
      exact ⟨by simp [zB], rfl⟩
theorem m_over (H : zMR A s n u R h) {a : Nat} (ha : a < 32) : zRd X 3 MX12_over [.ref 98, .int (nI s), .int (nI a)] (zWd I A t) (nI (zov n u a)) := by
  have h8 := H.2.1.1
  refine eX12_over _ _ _ (bX12_over_0 _ _ _ ?_)
  refine zdown (P := fun k => zRn X 3 0 0 MX12_over 5 [some (.ref 98), some (.int (nI s)), some (.int (nI a)), some (.int (nI (zov k u a))), some (.int (nI k))] [] (zWd I A t) _) (n := n) ?_ (fun k hk ih => ?_) 0 (Nat.zero_le _)
  · refine bX12_over_5 _ _ _ _ _ (zvRd ob_98 (m_many H) (by decide) ?_)
    rw [if_pos (Int32.le_refl _)]
    exact ⟨rfl, rfl⟩
  · refine bX12_over_5 _ _ _ _ _ (zvRd ob_98 (m_many H) (by decide) ?_)
    rw [zi_le (by omega) (by omega), if_neg (by omega)]
    refine zvRd ob_98 (m_isBelow H ha (by omega)) (by decide) ?_
    rw [zB_if]
    have e : zov (k + 1) u a = zov k u a ||| (if zlt u a k then 2 ^ k else 0) := rfl
    rw [e] at ih
    by_cases hc : zlt u a k = true
    · rw [if_pos hc]
      rw [if_pos hc] at ih
      refine bX12_over_35 _ _ _ _ _ _ ?_
      rw [zb_1 k (by omega), zb_or, nI_1]
      exact ih
    · rw [if_neg hc]
      rw [if_neg hc, Nat.or_zero] at ih
      refine bX12_over_35 _ _ _ _ _ _ ?_
      show zRn X 3 0 0 _ _ [_, _, _, some (.int (nI (zov k u a) ||| nI 0)), _] _ _ _
      rw [zb_or, Nat.or_zero, nI_1]
      exact ih
theorem m_isCover (H : zMR A s n u R h) {a b : Nat} (ha : a < 8) (hb : b < 8) : zRd X 4 MX12_isCover [.ref 98, .int (nI s), .int (nI a), .int (nI b)] (zWd I A t) (zB (zcv n u a b)) := by
  have h8 := z28 H.2.1.1
  have ho := zov_lt n u a
  refine eX12_isCover _ _ _ _ (bX12_isCover_0 _ _ _ _ (zvRd ob_98 (m_isBelow H (by omega) hb) (by decide) ?_))
  rw [zB_if]
  unfold zcv
  cases hc : zlt u a b
  · rw [if_neg (by simp)]
    exact ⟨by simp [zB], rfl⟩
  · rw [if_pos rfl]
    refine zvRd ob_98 (m_over H (by omega)) (by decide) (zvRd ob_98 (m_under H hb) (by decide) ?_)
    have : zov n u a &&& u b ≤ zov n u a := Nat.and_le_left
    rw [zb_and, zi_0 (by omega)]
    by_cases h0 : zov n u a &&& u b = 0
    · rw [if_pos h0]
      exact ⟨by simp [h0, zB], rfl⟩
    · rw [if_neg h0]
      exact ⟨by simp [h0, zB], rfl⟩
theorem zpc_step : ∀ m, m < 256 → m ≠ 0 → zpc m = zpc (m &&& (m - 1)) + 1 ∧ (m &&& (m - 1)) < m := by decide +kernel
theorem m_ones {m : Nat} (hm : m < 256) : zRd X 0 MX12_ones [.int (nI m)] w (nI (zpc m)) := by
  refine eX12_ones _ (bX12_ones_0 _ ?_)
  have key : ∀ (j m c : Nat), m < 256 → m ≤ j → c + zpc m = zpc m + c → ∀ (Q : Option Value → zW → Prop), Q (some (.int (nI (c + zpc m)))) w → zRn X 0 0 0 MX12_ones 4 [none, some (.int (nI c)), some (.int (nI m))] [] w Q := by
    intro j
    induction j with
    | zero =>
      intro m c hm hj _ Q hQ
      have : m = 0 := by omega
      subst this
      refine bX12_ones_4 _ _ ?_
      rw [if_pos (show nI 0 = 0 from rfl)]
      exact hQ
    | succ j ih =>
      intro m c hm hj _ Q hQ
      refine bX12_ones_4 _ _ ?_
      rw [zi_0 (by omega)]
      by_cases h0 : m = 0
      · rw [if_pos h0]
        subst h0
        exact hQ
      · rw [if_neg h0]
        obtain ⟨e1, e2⟩ := zpc_step m hm h0
        show zRn X 0 0 0 _ _ [_, some (.int (nI c + 1)), some (.int (nI m &&& (nI m - nI 1)))] _ _ _
        rw [nI_1, pk_sub (by omega), zb_and]
        refine ih _ _ (by omega) (by omega) (Nat.add_comm _ _) Q ?_
        rw [e1] at hQ
        rw [show c + 1 + zpc (m &&& (m - 1)) = c + (zpc (m &&& (m - 1)) + 1) by omega]
        exact hQ
  exact key m m 0 hm (Nat.le_refl _) (Nat.add_comm _ _) _ ⟨by rw [Nat.zero_add], rfl⟩
theorem m_belowMany (H : zMR A s n u R h) : zRd X 2 MX12_belowMany [.ref 98, .int (nI s)] (zWd I A t) (nI (ztw n u)) := by
  have h8 := H.2.1.1
  refine eX12_belowMany _ _ (bX12_belowMany_0 _ _ ?_)
  refine zdown (P := fun k => zRn X 2 0 0 MX12_belowMany 4 [some (.ref 98), some (.int (nI s)), some (.int (nI (ztw k u))), some (.int (nI k))] [] (zWd I A t) _) (n := n) ?_ (fun k hk ih => ?_) 0 (Nat.zero_le _)
  · refine bX12_belowMany_4 _ _ _ _ (zvRd ob_98 (m_many H) (by decide) ?_)
    rw [if_pos (Int32.le_refl _)]
    exact ⟨rfl, rfl⟩
  · refine bX12_belowMany_4 _ _ _ _ (zvRd ob_98 (m_many H) (by decide) ?_)
    rw [zi_le (by omega) (by omega), if_neg (by omega)]
    refine zvRd ob_98 (m_under H (by omega)) (by decide) (zcRd (m_ones (H.2.1.u31 k)) (by decide) ?_)
    rw [nI_1, nI_add]
    exact ih
theorem m_isThingS (H : zMR A s n u R h) (x : Int32) : zRd X 3 MX12_isThing [.ref 98, .int (nI s), .int x] (zWd I A t) (zB (decide (∃ a, a < n ∧ x = nI a))) := by
  have h8 := H.2.1.1
  refine eX12_isThing _ _ _ (bX12_isThing_0 _ _ _ (zvRd ob_98 (m_isOrderS H) (by decide) ?_))
  rw [zB_ifP]
  by_cases hn : 0 < n
  · rw [if_pos hn]
    refine zvRd ob_98 (m_many H) (by decide) ?_
    have hin := m_in0 (X := X) (w := zWd I A t) x (m := n - 1) (by omega)
    rw [← pk_sub (show 1 ≤ n from hn)] at hin
    refine zcRd hin (by decide) ?_
    rw [zB_ifP, pk_sub hn]
    by_cases hx : ¬ x < 0 ∧ ¬ nI (n - 1) < x
    · rw [if_pos hx]
      obtain ⟨j, hj, rfl⟩ := nI_of2 (M := nI (n - 1)) (n := n - 1) (nI_toInt (by omega)) hx.1 (Int32.not_lt.mp hx.2)
      exact ⟨by rw [decide_eq_true (⟨j, by omega, rfl⟩ : ∃ a, a < n ∧ nI j = nI a)]; rfl, rfl⟩
    · rw [if_neg hx]
      refine ⟨?_, rfl⟩
      rw [decide_eq_false]
      · rfl
      · rintro ⟨a, ha, rfl⟩
        exact hx ⟨nI_pos (by omega), by rw [zb_lt (by omega) (by omega)]; omega⟩
  · rw [if_neg hn]
    refine ⟨?_, rfl⟩
    rw [decide_eq_false]
    · rfl
    · rintro ⟨a, ha, -⟩
      omega
end ZMo
