/-! ===== count ===== -/
def zcn (S : Nat → zSl) : Nat → Int32
  | 0 => 0
  | k + 1 => zcn S k ||| (if 0 < (S k).1 then (1 : Int32) <<< (nI k &&& 31) else 0)
section ZCt
variable {X : zX} {I A : zF2} {t : zW} {st : zSt} {S : Nat → zSl} {x : Int32}
theorem v_filled (hC : zC3 I A S) : zRd X 2 MX11_filledSlots [.ref 0] (zWd I A t) (zcn S 3) := by
  refine eX11_filledSlots _ (bX11_filledSlots_0 _ ?_)
  have key : ∀ k, k ≤ 3 → zRn X 2 0 0 MX11_filledSlots 4 [some (.ref 0), some (.int (zcn S k)), some (.int (nI k))] [] (zWd I A t) (fun v w1 => v = some (.int (zcn S 3)) ∧ w1 = zWd I A t) := by
    refine zdown ?_ ?_
    · refine bX11_filledSlots_4 _ _ _ ?_
      rw [if_pos (by decide)]
      exact ⟨rfl, rfl⟩
    · intro k hk ih
      refine bX11_filledSlots_4 _ _ _ ?_
      show if nI 3 ≤ nI k then _ else _
      rw [zi_le (by decide) (by omega), if_neg (by omega)]
      by_cases c : 0 < (S k).1
      · refine zvO1 ob_0 (v_orderIn1 hC ⟨hk, rfl, c⟩) (by decide) (bX11_filledSlots_23 _ _ _ ?_)
        rw [nI_1]
        have e : zcn S (k + 1) = zcn S k ||| (1 : Int32) <<< (nI k &&& 31) := by
          show _ ||| (if _ then _ else _) = _
          rw [if_pos c]
        rw [e] at ih
        exact ih
      · refine zvO0 ob_0 (v_orderIn0 hC (fun s hs => c ?_)) (by decide) (bX11_filledSlots_23 _ _ _ ?_)
        · obtain ⟨s3, e, s0⟩ := hs
          have := (nI_eq (by omega) (by omega)).mp e
          subst this
          exact s0
        · rw [nI_1]
          have e : zcn S (k + 1) = zcn S k := by
            show _ ||| (if _ then _ else _) = _
            rw [if_neg c, Int32.or_zero]
          rw [e] at ih
          exact ih
  exact key 0 (by decide)
theorem a_count : zAc X MX11_count MX12_count [.int x] st := by
  have key : ∀ I A t, zMIv st I A → ∀ Q : Option Value → zW → Prop, zRn X 3 0 0 MX12_count 4 [some (.ref 98), some (.int x), some (.int (zcn st.1 3)), some (.int 3)] [] (zWd I A t) Q → zRn X 3 0 0 MX12_count 4 [some (.ref 98), some (.int x), some (.int 0), some (.int 0)] [] (zWd I A t) Q := by
    intro I A t hM Q h
    have key : ∀ k, k ≤ 3 → zRn X 3 0 0 MX12_count 4 [some (.ref 98), some (.int x), some (.int (zcn st.1 k)), some (.int (nI k))] [] (zWd I A t) Q := by
      refine zdown h ?_
      intro k hk ih
      refine bX12_count_4 _ _ _ _ ?_
      show if nI 3 ≤ nI k then _ else _
      rw [zi_le (by decide) (by omega), if_neg (by omega)]
      by_cases c : 0 < (st.1 k).1
      · refine zvRd ob_98 (m_ord1 hM.m3 ⟨hk, rfl, c⟩) (by decide) ?_
        rw [if_neg (by decide)]
        refine bX12_count_25 _ _ _ _ _ ?_
        rw [nI_1]
        have e : zcn st.1 (k + 1) = zcn st.1 k ||| (1 : Int32) <<< (nI k &&& 31) := by
          show _ ||| (if _ then _ else _) = _
          rw [if_pos c]
        rw [e] at ih
        exact ih
      · refine zvRd ob_98 (m_ord0 hM.m3 (fun s hs => c ?_)) (by decide) ?_
        · obtain ⟨s3, e, s0⟩ := hs
          have := (nI_eq (by omega) (by omega)).mp e
          subst this
          exact s0
        · rw [if_pos rfl]
          refine bX12_count_25 _ _ _ _ _ ?_
          rw [nI_1]
          have e : zcn st.1 (k + 1) = zcn st.1 k ||| 0 := by
            show _ ||| (if _ then _ else _) = _
            rw [if_neg c]
          rw [e] at ih
          exact ih
    exact key 0 (by decide)
  have fin : ∀ r : Int32, (∀ I A t, zCI st I A → zRn X 3 0 0 MX11_count 0 [some (.ref 0), some (.int x)] [] (zWd I A t) (zQa st I A t r)) → (∀ I A (_ : zW), zMIv st I A → (x = 0 → r = zcn st.1 3) ∧ (x = 1 → r = I 98 3) ∧ (x = 2 → r = I 98 5) ∧ (x = 3 → r = I 98 28) ∧ (¬ (0 ≤ x ∧ x < 4) → r = -1)) → zAc X MX11_count MX12_count [.int x] st := by
    intro r h1 h2
    refine zAc.mk r st 3 3 (by decide) (by decide) (fun I A t hC => eX11_count _ _ (h1 I A t hC)) (fun I A t hM => ?_)
    refine eX12_count _ _ (bX12_count_0 _ _ (key I A t hM _ (bX12_count_4 _ _ _ _ ?_)))
    rw [if_pos (by decide)]
    obtain ⟨g0, g1, g2, g3, g4⟩ := h2 I A t hM
    refine ⟨fun e => ?_, fun e => ⟨_, fi_98_3.rd, ?_⟩, fun e => ⟨_, fi_98_5.rd, ?_⟩, fun e => ⟨_, fi_98_28.rd, ?_⟩, fun e => ?_⟩
    · rw [← g0 e]; exact zQb_.id hM
    · rw [← g1 e]; exact zQb_.id hM
    · rw [← g2 e]; exact zQb_.id hM
    · rw [← g3 e]; exact zQb_.id hM
    · rw [← g4 e]; exact zQb_.id hM
  by_cases c0 : x = 0
  · subst c0
    refine fin (zcn st.1 3) (fun I A t hC => bX11_count_0 _ _ ⟨fun _ => zvRd ob_0 (v_filled hC.1) (by decide) (zQa.id hC), fun e => absurd e (by decide), fun e => absurd e (by decide), fun e => absurd e (by decide), fun e => absurd (by decide) e⟩) (fun I A t hM => ⟨fun _ => rfl, fun e => absurd e (by decide), fun e => absurd e (by decide), fun e => absurd e (by decide), fun e => absurd (by decide) e⟩)
  by_cases c1 : x = 1
  · subst c1
    refine fin (nI st.2.1.length) (fun I A t hC => bX11_count_0 _ _ ⟨fun e => absurd e (by decide), fun _ => ⟨_, fr_0_2.rd, zvRd (d1 := 0) ob_22 (eX6_size _ (bX6_size_0 _ ⟨_, fi_22_3.rd, rfl, rfl⟩)) (by decide) ?_⟩, fun e => absurd e (by decide), fun e => absurd e (by decide), fun e => absurd (by decide) e⟩) (fun I A t hM => ⟨fun e => absurd e (by decide), fun _ => hM.2.2.1.2.1.symm, fun e => absurd e (by decide), fun e => absurd e (by decide), fun e => absurd (by decide) e⟩)
    rw [hC.2.2.1.2.1]
    exact zQa.id hC
  by_cases c2 : x = 2
  · subst c2
    refine fin (nI st.2.2.1.1) (fun I A t hC => bX11_count_0 _ _ ⟨fun e => absurd e (by decide), fun e => absurd e (by decide), fun _ => ⟨_, fr_0_3.rd, zvRd ob_75 (v_bsize tT75) (by decide) ?_⟩, fun e => absurd e (by decide), fun e => absurd (by decide) e⟩) (fun I A t hM => ⟨fun e => absurd e (by decide), fun e => absurd e (by decide), fun _ => hM.2.2.2.1.2.1.symm, fun e => absurd e (by decide), fun e => absurd (by decide) e⟩)
    rw [hC.2.2.2.1.2.1]
    exact zQa.id hC
  by_cases c3 : x = 3
  · subst c3
    refine fin (nI st.2.2.2.1.1) (fun I A t hC => bX11_count_0 _ _ ⟨fun e => absurd e (by decide), fun e => absurd e (by decide), fun e => absurd e (by decide), fun _ => ⟨_, fr_0_4.rd, zvRd ob_77 (v_bsize tT77) (by decide) ?_⟩, fun e => absurd (by decide) e⟩) (fun I A t hM => ⟨fun e => absurd e (by decide), fun e => absurd e (by decide), fun e => absurd e (by decide), fun _ => hM.2.2.2.2.1.2.1.symm, fun e => absurd (by decide) e⟩)
    rw [hC.2.2.2.2.1.2.1]
    exact zQa.id hC
  · exact fin (-1) (fun I A t hC => bX11_count_0 _ _ ⟨fun e => absurd e c0, fun e => absurd e c1, fun e => absurd e c2, fun e => absurd e c3, fun _ => zQa.id hC⟩) (fun I A t hM => ⟨fun e => absurd e c0, fun e => absurd e c1, fun e => absurd e c2, fun e => absurd e c3, fun _ => rfl⟩)
end ZCt
