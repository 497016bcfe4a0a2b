section ZC2
variable {X : zX} {I A : zF2} {t : zW} {s n R : Nat} {u : Nat → Nat} {h : Nat → Nat → Nat}
theorem zS31 (H : zPo n u) (up : Bool) (a : Nat) : zS n u up a < 256 := by
  have h28 := z28 H.1
  cases up
  · exact H.u31 a
  · have := zov_lt n u a
    show zov n u a < 256
    omega
theorem m_deepOf (H : zMR A s n u R h) (up : Bool) : ∀ (k a : Nat), a < n → zpc (zS n u up a) ≤ k → zRd X (4 + k) MX12_deepOf [.ref 98, .int (nI s), .int (nI a), .int (zB up)] (zWd I A t) (nI (zde (zS n u up) n a)) := by
  have h8 := H.2.1.1
  have hT := zS_tr H.2.1 up
  intro k
  induction k with
  | zero =>
    intro a ha hk
    have body : zRn X (4 + 0) 0 0 MX12_deepOf 19 [some (.ref 98), some (.int (nI s)), none, some (.int (zB up)), none, none, none] [.int (nI (zS n u up a))] (zWd I A t) (fun v w1 => v = some (.int (nI (zde (zS n u up) n a))) ∧ w1 = zWd I A t) := by
      refine bX12_deepOf_19 _ _ _ _ ?_
      have h31 := zS31 H.2.1 up a
      have e0 : ∀ j, (zS n u up a).testBit j = false := by
        intro j
        cases hj : (zS n u up a).testBit j
        · rfl
        · have := hT.dn hj
          omega
      have e1 : zde (zS n u up) n a = 1 := by
        rw [zde_eq hT]
        have : zmx n (fun j => if (zS n u up a).testBit j = true then zde (zS n u up) n j else 0) ≤ 0 := zmx_le _ _ _ (fun j hj => by
          rw [e0 j]
          simp)
        omega
      refine zdown (P := fun k => zRn X (4 + 0) 0 0 MX12_deepOf 27 [some (.ref 98), some (.int (nI s)), none, some (.int (zB up)), some (.int (nI (zS n u up a))), some (.int 0), some (.int (nI k))] [] (zWd I A t) _) (n := n) ?_ (fun k hk ih => ?_) 0 (Nat.zero_le _)
      · refine bX12_deepOf_27 _ _ _ _ _ _ (zvRd ob_98 (m_many H) (by omega) ?_)
        rw [if_pos (Int32.le_refl _), e1]
        exact ⟨rfl, rfl⟩
      · refine bX12_deepOf_27 _ _ _ _ _ _ (zvRd ob_98 (m_many H) (by omega) ?_)
        rw [zi_le (by omega) (by omega), if_neg (by omega)]
        refine zcRd (m_has (by omega) (by omega)) (by omega) ?_
        rw [zB_if, e0 k, if_neg (by simp)]
        refine bX12_deepOf_65 _ _ _ _ _ _ ?_
        rw [nI_1]
        exact ih
    refine eX12_deepOf _ _ _ _ (bX12_deepOf_0 _ _ _ _ ?_)
    rw [zB_if]
    cases up
    · rw [if_neg (by simp)]
      exact zvRd ob_98 (m_under H (by omega)) (by omega) body
    · rw [if_pos rfl]
      exact zvRd ob_98 (m_over H (by omega)) (by omega) body
  | succ k ihk =>
    intro a ha hk
    have body : zRn X (4 + (k + 1)) 0 0 MX12_deepOf 19 [some (.ref 98), some (.int (nI s)), none, some (.int (zB up)), none, none, none] [.int (nI (zS n u up a))] (zWd I A t) (fun v w1 => v = some (.int (nI (zde (zS n u up) n a))) ∧ w1 = zWd I A t) := by
      refine bX12_deepOf_19 _ _ _ _ ?_
      have h31 := zS31 H.2.1 up a
      refine zdown (P := fun j => zRn X (4 + (k + 1)) 0 0 MX12_deepOf 27 [some (.ref 98), some (.int (nI s)), none, some (.int (zB up)), some (.int (nI (zS n u up a))), some (.int (nI (zmx j (fun i => if (zS n u up a).testBit i = true then zde (zS n u up) n i else 0)))), some (.int (nI j))] [] (zWd I A t) _) (n := n) ?_ (fun j hj ih => ?_) 0 (Nat.zero_le _)
      · refine bX12_deepOf_27 _ _ _ _ _ _ (zvRd ob_98 (m_many H) (by omega) ?_)
        rw [if_pos (Int32.le_refl _), zde_eq hT, nI_1]
        exact ⟨rfl, rfl⟩
      · refine bX12_deepOf_27 _ _ _ _ _ _ (zvRd ob_98 (m_many H) (by omega) ?_)
        rw [zi_le (by omega) (by omega), if_neg (by omega)]
        refine zcRd (m_has (by omega) (by omega)) (by omega) ?_
        have hz : zmx j (fun i => if (zS n u up a).testBit i = true then zde (zS n u up) n i else 0) ≤ 8 := zmx_le _ _ _ (fun i hi => by
          have := zde_n hT (i := i) (by omega)
          show (if (zS n u up a).testBit i = true then zde (zS n u up) n i else 0) ≤ 8
          split <;> omega)
        have hdj := zde_n hT hj
        rw [zmx_s] at ih
        rw [zB_if]
        by_cases hb : (zS n u up a).testBit j = true
        · rw [if_pos hb]
          have := hT.dn hb
          refine zvRd ob_98 (ihk j hj (by omega)) (by omega) ⟨by omega, ?_⟩
          refine bX12_deepOf_65 _ _ _ _ _ _ ?_
          simp only [hb, if_true] at ih
          rw [zi_lt (by omega) (by omega), nI_1]
          split at ih
          · rename_i hc
            rw [if_pos hc]
            exact ih
          · rename_i hc
            rw [if_neg hc]
            exact ih
        · rw [if_neg hb]
          refine bX12_deepOf_65 _ _ _ _ _ _ ?_
          simp only [hb, if_false, Nat.not_lt_zero, Bool.false_eq_true] at ih
          rw [nI_1]
          exact ih
    refine eX12_deepOf _ _ _ _ (bX12_deepOf_0 _ _ _ _ ?_)
    rw [zB_if]
    cases up
    · rw [if_neg (by simp)]
      exact zvRd ob_98 (m_under H (by omega)) (by omega) body
    · rw [if_pos rfl]
      exact zvRd ob_98 (m_over H (by omega)) (by omega) body
theorem m_deep8 (H : zMR A s n u R h) (up : Bool) {a : Nat} (ha : a < n) : zRd X 12 MX12_deepOf [.ref 98, .int (nI s), .int (nI a), .int (zB up)] (zWd I A t) (nI (zde (zS n u up) n a)) := m_deepOf H up 8 a ha (zpc8 _)
theorem m_height (H : zMR A s n u R h) : zRd X 13 MX12_height [.ref 98, .int (nI s)] (zWd I A t) (nI (zhe n u)) := by
  have h8 := H.2.1.1
  refine eX12_height _ _ (bX12_height_0 _ _ ?_)
  refine zdown (P := fun k => zRn X 13 0 0 MX12_height 4 [some (.ref 98), some (.int (nI s)), some (.int (nI (zmx k (fun i => zde (zov n u) n i)))), some (.int (nI k))] [] (zWd I A t) _) (n := n) ?_ (fun k hk ih => ?_) 0 (Nat.zero_le _)
  · refine bX12_height_4 _ _ _ _ (zvRd ob_98 (m_many H) (by decide) ?_)
    rw [if_pos (Int32.le_refl _)]
    exact ⟨rfl, rfl⟩
  · refine bX12_height_4 _ _ _ _ (zvRd ob_98 (m_many H) (by decide) ?_)
    rw [zi_le (by omega) (by omega), if_neg (by omega)]
    have h1 := zde_n (zTr.o H.2.1) hk
    have h2 : zmx k (fun i => zde (zov n u) n i) ≤ n := zmx_le _ _ _ (fun j hj => zde_n (zTr.o H.2.1) (by omega))
    refine zvRd ob_98 (m_deep8 H true hk) (by decide) ⟨by decide, ?_⟩
    show zRn X 13 0 0 _ _ [_, _, some (.int (if nI _ < nI (zde (zov n u) n k) then nI (zde (zov n u) n k) else nI _)), _] _ _ _
    rw [zmx_s] at ih
    rw [zi_lt (by omega) (by omega), nI_1]
    split at ih
    · rename_i hc
      rw [if_pos hc]
      exact ih
    · rename_i hc
      rw [if_neg hc]
      exact ih
theorem m_isLevelled (H : zMR A s n u R h) : zRd X 13 MX12_isLevelled [.ref 98, .int (nI s)] (zWd I A t) (zB (zlv n u)) := by
  have h8 := H.2.1.1
  refine eX12_isLevelled _ _ (bX12_isLevelled_0 _ _ ?_)
  refine zloopA (R := fun k b => zRn X 13 0 0 MX12_isLevelled 2 [some (.ref 98), some (.int (nI s)), some (.int (nI k)), none] [] (zWd I A t) (fun v w1 => v = some (.int (zB b)) ∧ w1 = zWd I A t)) ?_ (fun a ha b h1 h2 => ?_)
  · refine bX12_isLevelled_2 _ _ _ (zvRd ob_98 (m_many H) (by decide) ?_)
    rw [if_pos (Int32.le_refl _)]
    exact ⟨rfl, rfl⟩
  · refine bX12_isLevelled_2 _ _ _ (zvRd ob_98 (m_many H) (by decide) ?_)
    rw [zi_le (by omega) (by omega), if_neg (by omega)]
    generalize hp : (fun b => !zcv n u a b || decide (zde u n b = zde u n a + 1)) = p at *
    have inner := zloopA (n := n) (p := p) (R := fun k c => ((c = true → zRn X 13 0 0 MX12_isLevelled 2 [some (.ref 98), some (.int (nI s)), some (.int (nI (a + 1))), none] [] (zWd I A t) (fun v w1 => v = some (.int (zB b)) ∧ w1 = zWd I A t)) → (c = false → b = false) → zRn X 13 0 0 MX12_isLevelled 13 [some (.ref 98), some (.int (nI s)), some (.int (nI a)), some (.int (nI k))] [] (zWd I A t) (fun v w1 => v = some (.int (zB b)) ∧ w1 = zWd I A t))) (fun g1 g2 => by
      refine bX12_isLevelled_13 _ _ _ _ (zvRd ob_98 (m_many H) (by decide) ?_)
      rw [if_pos (Int32.le_refl _), nI_1]
      exact g1 rfl) (fun k hk c e1 e2 g1 g2 => by
      refine bX12_isLevelled_13 _ _ _ _ (zvRd ob_98 (m_many H) (by decide) ?_)
      rw [zi_le (by omega) (by omega), if_neg (by omega)]
      refine zvRd ob_98 (m_isCover H (by omega) (by omega)) (by decide) ?_
      have d1 := zde_n (zTr.u H.2.1) hk
      have d2 := zde_n (zTr.u H.2.1) ha
      rw [zB_if]
      by_cases hb : zcv n u a k = true
      · rw [if_pos hb]
        refine zvRd ob_98 (m_deep8 H false hk) (by decide) (zvRd ob_98 (m_deep8 H false ha) (by decide) ?_)
        show if nI (zde u n k) = nI (zde u n a) + 1 then _ else _
        rw [nI_1, zi_eq (by omega) (by omega)]
        by_cases hd : zde u n k = zde u n a + 1
        · rw [if_pos hd]
          refine bX12_isLevelled_53 _ _ _ _ ?_
          rw [nI_1]
          exact e1 (by rw [← hp]; simp [hd]) g1 g2
        · rw [if_neg hd]
          have : c = false := e2 (by rw [← hp]; simp [hd, hb])
          rw [g2 this]
          exact ⟨rfl, rfl⟩
      · rw [if_neg hb]
        refine bX12_isLevelled_53 _ _ _ _ ?_
        rw [nI_1]
        refine e1 ?_ g1 g2
        rw [← hp]
        simp [hb])
    exact inner h1 h2
theorem m_chainAt (H : zMR A s n u R h) (hn : 0 < n) {k : Nat} (hk : k < 2 ^ 31) : zRd X 14 MX12_chain [.ref 98, .int (nI s), .int (nI k)] (zWd I A t) (if k < zhe n u then nI (zch n u k) else -1) := by
  have h8 := H.2.1.1
  have h28 := z28 h8
  have hh := zhe_n H.2.1
  refine eX12_chain _ _ _ (bX12_chain_0 _ _ _ (zvRd ob_98 (m_isOrderS H) (by decide) ?_))
  rw [zB_ifP, if_pos hn, if_pos (nI_pos' hk)]
  refine zvRd ob_98 (m_height H) (by decide) (zvRd ob_98 (m_many H) (by decide) ?_)
  show zRn X 14 0 0 _ _ [_, _, _, _, some (.int ((1 : Int32) <<< (nI n &&& 31) - nI 1)), _, _] _ _ _
  rw [zb_1 n (by omega), pk_sub (Nat.one_le_two_pow)]
  have done : zRn X 14 0 0 MX12_chain 35 [some (.ref 98), some (.int (nI s)), some (.int (nI k)), some (.int (nI (zhe n u - zhe n u))), some (.int (nI (zcst n u (zhe n u)))), some (.int (nI (zhe n u))), none] [] (zWd I A t) (fun v w1 => v = some (.int (-1)) ∧ w1 = zWd I A t) := by
    refine bX12_chain_35 _ _ _ _ _ _ ?_
    rw [Nat.sub_self, if_pos (show nI 0 ≤ 0 from Int32.le_refl _)]
    exact ⟨rfl, rfl⟩
  have step : ∀ (Q : Option Value → zW → Prop) (j : Nat), j < zhe n u → (j = k → Q (some (.int (nI (zch n u j)))) (zWd I A t)) → (j ≠ k → zRn X 14 0 0 MX12_chain 35 [some (.ref 98), some (.int (nI s)), some (.int (nI k)), some (.int (nI (zhe n u - (j + 1)))), some (.int (nI (zcst n u (j + 1)))), some (.int (nI (j + 1))), none] [] (zWd I A t) Q) → zRn X 14 0 0 MX12_chain 35 [some (.ref 98), some (.int (nI s)), some (.int (nI k)), some (.int (nI (zhe n u - j))), some (.int (nI (zcst n u j))), some (.int (nI j)), none] [] (zWd I A t) Q := by
    intro Q j hj hq hnx
    obtain ⟨c1, c2, c3⟩ := zch_ok H.2.1 j hj
    have hs := zcst_lt (n := n) (u := u) j
    refine bX12_chain_35 _ _ _ _ _ _ ?_
    have e0 : ¬ nI (zhe n u - j) ≤ 0 := nI_nle (by omega) (by omega)
    rw [if_neg e0]
    refine zdown (P := fun a => zRn X 14 0 0 MX12_chain 42 [some (.ref 98), some (.int (nI s)), some (.int (nI k)), some (.int (nI (zhe n u - j))), some (.int (nI (zcst n u j))), some (.int (nI j)), some (.int (nI a))] [] (zWd I A t) Q) (n := zch n u j) ?_ (fun a ha ih => ?_) 0 (Nat.zero_le _)
    · refine bX12_chain_42 _ _ _ _ _ _ _ (zcRd (m_has (by omega) (by omega)) (by decide) ?_)
      rw [zB_if, if_pos c2]
      refine zvRd ob_98 (m_deep8 H true c1) (by decide) ?_
      show if nI (zde (zov n u) n (zch n u j)) = _ then _ else _
      rw [c3, if_pos rfl, zi_eq (by omega) hk]
      by_cases hjk : j = k
      · rw [if_pos hjk]
        exact hq hjk
      · rw [if_neg hjk]
        refine zvRd ob_98 (m_over H (by omega)) (by decide) ?_
        show zRn X 14 0 0 _ _ [_, _, _, some (.int (nI (zhe n u - j) - nI 1)), _, _, _] _ _ _
        rw [pk_sub (by omega), nI_1, show zhe n u - j - 1 = zhe n u - (j + 1) by omega]
        exact hnx hjk
    · refine bX12_chain_42 _ _ _ _ _ _ _ (zcRd (m_has (by omega) (by omega)) (by decide) ?_)
      have hno := zfst_no (fun a => (zcst n u j).testBit a && decide (zde (zov n u) n a = zhe n u - j)) n a ha
      rw [zB_if]
      by_cases hb : (zcst n u j).testBit a = true
      · rw [if_pos hb]
        have han : a < n := by omega
        refine zvRd ob_98 (m_deep8 H true han) (by decide) ?_
        have d1 := zde_n (zTr.o H.2.1) han
        show if nI (zde (zov n u) n a) = _ then _ else _
        rw [zi_eq (by omega) (by omega)]
        simp only [hb, Bool.true_and, decide_eq_false_iff_not] at hno
        rw [if_neg hno]
        refine bX12_chain_64 _ _ _ _ _ _ _ ?_
        rw [nI_1]
        exact ih
      · rw [if_neg hb]
        refine bX12_chain_64 _ _ _ _ _ _ _ ?_
        rw [nI_1]
        exact ih
  by_cases hkh : k < zhe n u
  · rw [if_pos hkh]
    have main : ∀ j, j ≤ k → zRn X 14 0 0 MX12_chain 35 [some (.ref 98), some (.int (nI s)), some (.int (nI k)), some (.int (nI (zhe n u - j))), some (.int (nI (zcst n u j))), some (.int (nI j)), none] [] (zWd I A t) (fun v w1 => v = some (.int (nI (zch n u k))) ∧ w1 = zWd I A t) := by
      refine zdown ?_ ?_
      · exact step _ k hkh (fun _ => ⟨rfl, rfl⟩) (fun q => absurd rfl q)
      · intro j hj ih
        exact step _ j (by omega) (fun q => by omega) (fun _ => ih)
    exact main 0 (Nat.zero_le _)
  · rw [if_neg hkh]
    have main : ∀ j, j ≤ zhe n u → zRn X 14 0 0 MX12_chain 35 [some (.ref 98), some (.int (nI s)), some (.int (nI k)), some (.int (nI (zhe n u - j))), some (.int (nI (zcst n u j))), some (.int (nI j)), none] [] (zWd I A t) (fun v w1 => v = some (.int (-1)) ∧ w1 = zWd I A t) := by
      refine zdown done ?_
      intro j hj ih
      exact step _ j hj (fun q => by omega) (fun _ => ih)
    exact main 0 (Nat.zero_le _)
end ZC2
