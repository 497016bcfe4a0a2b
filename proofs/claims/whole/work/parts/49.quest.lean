/-! ===== calls that answer alike: look, of, is, chain, anti, deep, and those of lines ===== -/
theorem znot {k : Nat} {c : Int32} {m : Nat} (hc : c = nI m) (hm : m < 2 ^ 31) (hk : k < m) : (0 : Int32) ≤ nI k ∧ nI k < c := ⟨nI_pos' (by omega), by rw [hc, zb_lt (by omega) hm]; exact hk⟩
theorem zout {y c : Int32} {m : Nat} (hc : c = nI m) (hm : m < 2 ^ 31) (h : zin m y = false) : ¬ ((0 : Int32) ≤ y ∧ y < c) := by
  rintro ⟨h1, h2⟩
  rw [hc] at h2
  have := (zhas_iff (y := y) (n := m) hm).mp ⟨Int32.not_lt.mpr h1, Int32.not_le.mpr h2⟩
  rw [zin_e.mpr this] at h
  cases h
theorem zneq {y : Int32} {m j : Nat} (h : zin m y = false) (hj : j < m) (e : y = nI j) : False := by
  rw [zin_e.mpr ⟨j, hj, e⟩] at h
  cases h
section ZQu
variable {X : zX} {S : Nat → zSl} {x y z : Int32}
theorem q_anti : zSame X MX11_anti MX12_anti [.int x] S := by
  rcases zslot S x with ⟨s, hs⟩ | hn
  · refine ⟨nI (zwi (S s).1 (S s).2.1), fun I A t hC => zQy.mk 4 (by decide) ?_, fun I A t hM => zQy.mk 4 (by decide) ?_⟩
    · refine eX11_anti _ _ (bX11_anti_0 _ _ (zvO1 ob_0 (v_orderIn1 hC hs) (by decide) (zcRd (v_widest (hC s hs.1).1) (by decide) (zQk.id _ _ _ _))))
    · have h1 := m_ord1 (X := X) (I := I) (t := t) hM hs
      obtain ⟨s3, rfl, s0⟩ := hs
      refine eX12_anti _ _ (bX12_anti_0 _ _ (zvRd ob_98 h1 (by decide) ?_))
      rw [if_neg (by decide)]
      exact zvRd ob_98 (m_antiOf (hM s s3)) (by decide) (zQk.id _ _ _ _)
  · refine ⟨-2, fun I A t hC => zQy.mk 4 (by decide) ?_, fun I A t hM => zQy.mk 4 (by decide) ?_⟩
    · exact eX11_anti _ _ (bX11_anti_0 _ _ (zvO0 ob_0 (v_orderIn0 hC hn) (by decide) (zQk.id _ _ _ _)))
    · refine eX12_anti _ _ (bX12_anti_0 _ _ (zvRd ob_98 (m_ord0 hM hn) (by decide) ?_))
      rw [if_pos rfl]
      exact zQk.id _ _ _ _
theorem q_chain : zSame X MX11_chain MX12_chain [.int x, .int y] S := by
  rcases zslot S x with ⟨s, hs⟩ | hn
  · by_cases hy : 0 ≤ y
    · obtain ⟨k, hk, rfl⟩ := nI_of (Int32.not_lt.mpr hy)
      refine ⟨if k < zhe (S s).1 (S s).2.1 then nI (zch (S s).1 (S s).2.1 k) else -1, fun I A t hC => zQy.mk 5 (by decide) ?_, fun I A t hM => ?_⟩
      · refine eX11_chain _ _ _ (bX11_chain_0 _ _ _ (zvO1 ob_0 (v_orderIn1 hC hs) (by decide) ?_))
        rw [if_pos hy]
        refine ⟨_, fr_0_6.rd, zvI2 ob_80 (v_longestAt (hC s hs.1).1 hk) (by decide) ?_⟩
        rintro r w1 ⟨rfl, D, rfl⟩
        exact zQk.of ((zKp.refl I A).a (by decide))
      · obtain ⟨s3, rfl, s0⟩ := hs
        exact zQy.rd 14 (by decide) (m_chainAt (hM s s3) s0 hk)
    · refine ⟨-2, fun I A t hC => zQy.mk 5 (by decide) ?_, fun I A t hM => zQy.mk 14 (by decide) ?_⟩
      · refine eX11_chain _ _ _ (bX11_chain_0 _ _ _ (zvO1 ob_0 (v_orderIn1 hC hs) (by decide) ?_))
        rw [if_neg hy]
        exact zQk.id _ _ _ _
      · refine eX12_chain _ _ _ (bX12_chain_0 _ _ _ (zvRd ob_98 (m_ord1 hM hs) (by decide) ?_))
        rw [if_neg (by decide), if_neg hy]
        exact zQk.id _ _ _ _
  · refine ⟨-2, fun I A t hC => zQy.mk 5 (by decide) ?_, fun I A t hM => zQy.mk 14 (by decide) ?_⟩
    · exact eX11_chain _ _ _ (bX11_chain_0 _ _ _ (zvO0 ob_0 (v_orderIn0 hC hn) (by decide) (zQk.id _ _ _ _)))
    · refine eX12_chain _ _ _ (bX12_chain_0 _ _ _ (zvRd ob_98 (m_ord0 hM hn) (by decide) ?_))
      rw [if_pos rfl]
      exact zQk.id _ _ _ _
theorem q_deep : zSame X MX11_deep MX12_deep [.int x, .int y, .int z] S := by
  rcases zslot S x with ⟨s, hs⟩ | hn
  · by_cases hy : zin (S s).1 y = true
    · obtain ⟨a, ha, rfl⟩ := zin_e.mp hy
      by_cases hz : zin 2 z = true
      · obtain ⟨b, hb, rfl⟩ := zin_e.mp hz
        refine ⟨nI (zde (zS (S s).1 (S s).2.1 (decide (b = 1))) (S s).1 a), fun I A t hC => zQy.mk 5 (by decide) ?_, fun I A t hM => zQy.mk 14 (by decide) ?_⟩
        · refine eX11_deep _ _ _ _ (bX11_deep_0 _ _ _ _ (zvO1 ob_0 (v_orderWith2 hC hs ha) (by decide) (zcRd (v_isBit _) (by decide) ?_)))
          rw [zB_if, if_pos hz]
          refine ⟨_, fr_0_6.rd, ?_⟩
          have go : zRn X 5 0 0 MX11_deep 40 [none, none, none, none, none] [.int (zB (decide (b = 1))), .int (nI a), .ref (2 + 5 * s), .ref 80] (zWd I A t) (zQk I A t (nI (zde (zS (S s).1 (S s).2.1 (decide (b = 1))) (S s).1 a))) := by
            refine bX11_deep_40 _ _ _ _ (zvI2 ob_80 (v_depth (hC s hs.1).1 _ ha) (by decide) ?_)
            rintro r w1 ⟨rfl, D, rfl⟩
            exact zQk.of ((zKp.refl I A).a (by decide))
          rcases (show b = 0 ∨ b = 1 by omega) with rfl | rfl
          · rw [if_neg (by decide)]
            exact go
          · rw [if_pos (by decide)]
            exact go
        · have h1 := m_thing1 (X := X) (I := I) (t := t) (y := nI a) hM hs
          obtain ⟨s3, rfl, s0⟩ := hs
          refine eX12_deep _ _ _ _ (bX12_deep_0 _ _ _ _ (zvRd ob_98 h1 (by decide) ?_))
          rw [zB_if, if_pos hy]
          refine zcRd (m_inC (m := 1) _ (by decide) (by decide)) (by decide) ?_
          rw [zB_if, if_pos hz]
          have go : zRn X 14 0 0 MX12_deep 32 [none, none, none, none] [.int (zB (decide (b = 1))), .int (nI a), .int (nI s), .ref 98] (zWd I A t) (zQk I A t (nI (zde (zS (S s).1 (S s).2.1 (decide (b = 1))) (S s).1 a))) := bX12_deep_32 _ _ _ _ (zvRd ob_98 (m_deep8 (hM s s3) _ ha) (by decide) (zQk.id _ _ _ _))
          rcases (show b = 0 ∨ b = 1 by omega) with rfl | rfl
          · rw [if_neg (by decide)]
            exact go
          · rw [if_pos (by decide)]
            exact go
      · rw [Bool.not_eq_true] at hz
        refine ⟨-2, fun I A t hC => zQy.mk 5 (by decide) ?_, fun I A t hM => zQy.mk 14 (by decide) ?_⟩
        · refine eX11_deep _ _ _ _ (bX11_deep_0 _ _ _ _ (zvO1 ob_0 (v_orderWith2 hC hs ha) (by decide) (zcRd (v_isBit _) (by decide) ?_)))
          rw [zB_if, hz, if_neg (by decide)]
          exact zQk.id _ _ _ _
        · refine eX12_deep _ _ _ _ (bX12_deep_0 _ _ _ _ (zvRd ob_98 (m_thing1 hM hs) (by decide) ?_))
          rw [zB_if, if_pos hy]
          refine zcRd (m_inC (m := 1) _ (by decide) (by decide)) (by decide) ?_
          rw [zB_if, hz, if_neg (by decide)]
          exact zQk.id _ _ _ _
    · rw [Bool.not_eq_true] at hy
      refine ⟨-2, fun I A t hC => zQy.mk 5 (by decide) ?_, fun I A t hM => zQy.mk 14 (by decide) ?_⟩
      · exact eX11_deep _ _ _ _ (bX11_deep_0 _ _ _ _ (zvO0 ob_0 (v_orderWith1 hC hs hy) (by decide) (zQk.id _ _ _ _)))
      · refine eX12_deep _ _ _ _ (bX12_deep_0 _ _ _ _ (zvRd ob_98 (m_thing1 hM hs) (by decide) ?_))
        rw [zB_if, hy, if_neg (by decide)]
        exact zQk.id _ _ _ _
  · refine ⟨-2, fun I A t hC => zQy.mk 5 (by decide) ?_, fun I A t hM => zQy.mk 14 (by decide) ?_⟩
    · exact eX11_deep _ _ _ _ (bX11_deep_0 _ _ _ _ (zvO0 ob_0 (v_orderWith0 hC hn) (by decide) (zQk.id _ _ _ _)))
    · refine eX12_deep _ _ _ _ (bX12_deep_0 _ _ _ _ (zvRd ob_98 (m_thing0 hM hn) (by decide) ?_))
      rw [if_pos rfl]
      exact zQk.id _ _ _ _
theorem q_look : zSame X MX11_look MX12_look [.int x, .int y] S := by
  rcases zslot S x with ⟨s, hs⟩ | hn
  · by_cases hy : zin 9 y = true
    · obtain ⟨k, hk, rfl⟩ := zin_e.mp hy
      refine ⟨nI (zlk (S s).1 (S s).2.1 (S s).2.2.1 k), fun I A t hC => zQy.mk 5 (by decide) ?_, fun I A t hM => ?_⟩
      · have h0 := hC s hs.1
        have h8 := h0.1.n8
        have h28 := z28 h8
        refine eX11_look _ _ _ (bX11_look_0 _ _ _ (zvO1 ob_0 (v_orderIn1 hC hs) (by decide) ⟨fun e => ?_, fun e => ?_, fun e => ?_, fun e => ?_, fun e => ?_, fun e => ?_, fun e => ?_, fun e => ?_, fun e => ?_, fun e => ?_⟩))
        · have := zcase (by omega) (by decide) (show nI k = nI 0 from e)
          subst this
          exact zvRd h0.1.1.ob (v_size h0.1) (by decide) (zQk.id _ _ _ _)
        · have := zcase (by omega) (by decide) (show nI k = nI 1 from e)
          subst this
          exact zvRd h0.1.1.ob (v_twos h0.1) (by decide) (zQk.id _ _ _ _)
        · have := zcase (by omega) (by decide) (show nI k = nI 2 from e)
          subst this
          exact zvRd h0.1.1.ob (v_covers h0.1) (by decide) (zQk.id _ _ _ _)
        · have := zcase (by omega) (by decide) (show nI k = nI 3 from e)
          subst this
          refine ⟨_, fr_0_6.rd, zvI2 ob_80 (v_height h0.1) (by decide) ?_⟩
          rintro r w1 ⟨rfl, D, rfl, -⟩
          exact zQk.of ((zKp.refl I A).a (by decide))
        · have := zcase (by omega) (by decide) (show nI k = nI 4 from e)
          subst this
          have hw := zwi_lt (S s).1 (S s).2.1
          exact zcRd (v_widest h0.1) (by decide) (zcRd (v_bc (by omega)) (by decide) (zQk.id _ _ _ _))
        · have := zcase (by omega) (by decide) (show nI k = nI 5 from e)
          subst this
          have h1 := v_freeTwos (X := X) (t := t) h0.1 hs.2.2
          rw [zfreeT h0.1.2.1] at h1
          exact zvRd h0.1.1.ob h1 (by decide) (zQk.id _ _ _ _)
        · have := zcase (by omega) (by decide) (show nI k = nI 6 from e)
          subst this
          exact zcRd (v_ideals h0.1) (by decide) (zQk.id _ _ _ _)
        · have := zcase (by omega) (by decide) (show nI k = nI 7 from e)
          subst this
          exact zcRd (v_hangingParts h0.1) (by decide) (zQk.id _ _ _ _)
        · have := zcase (by omega) (by decide) (show nI k = nI 8 from e)
          subst this
          have h1 := v_rsize (X := X) (I := I) (A := A) (t := t) h0.1.1
          rw [h0.2.2.1] at h1
          exact zvRf h0.1.1.ob (v_rowsOf h0.1.1) (by decide) (zvRd h0.1.1.rob h1 (by decide) (zQk.id _ _ _ _))
        · exact absurd (znot (m := 9) rfl (by decide) hk) e
      · obtain ⟨s3, rfl, s0⟩ := hs
        exact zQy.rd 14 (by decide) (m_lookS (hM s s3) s0 hk)
    · rw [Bool.not_eq_true] at hy
      refine ⟨-2, fun I A t hC => zQy.mk 5 (by decide) ?_, fun I A t hM => zQy.mk 14 (by decide) ?_⟩
      · exact eX11_look _ _ _ (bX11_look_0 _ _ _ (zvO1 ob_0 (v_orderIn1 hC hs) (by decide) ⟨fun e => (zneq hy (j := 0) (by decide) e).elim, fun e => (zneq hy (j := 1) (by decide) e).elim, fun e => (zneq hy (j := 2) (by decide) e).elim, fun e => (zneq hy (j := 3) (by decide) e).elim, fun e => (zneq hy (j := 4) (by decide) e).elim, fun e => (zneq hy (j := 5) (by decide) e).elim, fun e => (zneq hy (j := 6) (by decide) e).elim, fun e => (zneq hy (j := 7) (by decide) e).elim, fun e => (zneq hy (j := 8) (by decide) e).elim, fun _ => zQk.id _ _ _ _⟩))
      · refine eX12_look _ _ _ (bX12_look_0 _ _ _ (zvRd ob_98 (m_ord1 hM hs) (by decide) ?_))
        rw [if_neg (by decide)]
        refine zcRd (m_inC (m := 8) _ (by decide) (by decide)) (by decide) ?_
        rw [zB_if, hy, if_neg (by decide)]
        exact zQk.id _ _ _ _
  · refine ⟨-2, fun I A t hC => zQy.mk 5 (by decide) ?_, fun I A t hM => zQy.mk 14 (by decide) ?_⟩
    · exact eX11_look _ _ _ (bX11_look_0 _ _ _ (zvO0 ob_0 (v_orderIn0 hC hn) (by decide) (zQk.id _ _ _ _)))
    · refine eX12_look _ _ _ (bX12_look_0 _ _ _ (zvRd ob_98 (m_ord0 hM hn) (by decide) ?_))
      rw [if_pos rfl]
      exact zQk.id _ _ _ _
theorem q_of : zSame X MX11_of MX12_of_ [.int x, .int y, .int z] S := by
  rcases zslot S x with ⟨s, hs⟩ | hn
  · by_cases hy : zin (S s).1 y = true
    · obtain ⟨a, ha, rfl⟩ := zin_e.mp hy
      by_cases hz : zin 5 z = true
      · obtain ⟨k, hk, rfl⟩ := zin_e.mp hz
        refine ⟨nI (zofk (S s).1 (S s).2.1 a k), fun I A t hC => zQy.mk 5 (by decide) ?_, fun I A t hM => ?_⟩
        · have h0 := hC s hs.1
          have h8 := h0.1.n8
          refine eX11_of _ _ _ _ (bX11_of_0 _ _ _ _ (zvO1 ob_0 (v_orderWith2 hC hs ha) (by decide) ⟨fun e => ?_, fun e => ?_, fun e => ?_, fun e => ?_, fun e => ?_, fun e => ?_⟩))
          · have := zcase (by omega) (by decide) (show nI k = nI 0 from e)
            subst this
            exact zvRd h0.1.1.ob (v_belowOf h0.1 (by omega)) (by decide) (zQk.id _ _ _ _)
          · have := zcase (by omega) (by decide) (show nI k = nI 1 from e)
            subst this
            exact zvRd h0.1.1.ob (v_aboveOf h0.1 (by omega)) (by decide) (zQk.id _ _ _ _)
          · have := zcase (by omega) (by decide) (show nI k = nI 2 from e)
            subst this
            exact zvRd h0.1.1.ob (v_freeOf h0.1 ha) (by decide) (zQk.id _ _ _ _)
          · have := zcase (by omega) (by decide) (show nI k = nI 3 from e)
            subst this
            exact zvRd h0.1.1.ob (v_coveredBy h0.1 (by omega)) (by decide) (zQk.id _ _ _ _)
          · have := zcase (by omega) (by decide) (show nI k = nI 4 from e)
            subst this
            exact zvRd h0.1.1.ob (v_coversOf h0.1 (by omega)) (by decide) (zQk.id _ _ _ _)
          · exact absurd (znot (m := 5) rfl (by decide) hk) e
        · obtain ⟨s3, rfl, s0⟩ := hs
          exact zQy.rd 5 (by decide) (m_ofS (hM s s3) s0 ha hk)
      · rw [Bool.not_eq_true] at hz
        refine ⟨-2, fun I A t hC => zQy.mk 5 (by decide) ?_, fun I A t hM => zQy.mk 14 (by decide) ?_⟩
        · exact eX11_of _ _ _ _ (bX11_of_0 _ _ _ _ (zvO1 ob_0 (v_orderWith2 hC hs ha) (by decide) ⟨fun e => (zneq hz (j := 0) (by decide) e).elim, fun e => (zneq hz (j := 1) (by decide) e).elim, fun e => (zneq hz (j := 2) (by decide) e).elim, fun e => (zneq hz (j := 3) (by decide) e).elim, fun e => (zneq hz (j := 4) (by decide) e).elim, fun _ => zQk.id _ _ _ _⟩))
        · refine eX12_of_ _ _ _ _ (bX12_of__0 _ _ _ _ (zvRd ob_98 (m_thing1 hM hs) (by decide) ?_))
          rw [zB_if, if_pos hy]
          refine zcRd (m_inC (m := 4) _ (by decide) (by decide)) (by decide) ?_
          rw [zB_if, hz, if_neg (by decide)]
          exact zQk.id _ _ _ _
    · rw [Bool.not_eq_true] at hy
      refine ⟨-2, fun I A t hC => zQy.mk 5 (by decide) ?_, fun I A t hM => zQy.mk 14 (by decide) ?_⟩
      · exact eX11_of _ _ _ _ (bX11_of_0 _ _ _ _ (zvO0 ob_0 (v_orderWith1 hC hs hy) (by decide) (zQk.id _ _ _ _)))
      · refine eX12_of_ _ _ _ _ (bX12_of__0 _ _ _ _ (zvRd ob_98 (m_thing1 hM hs) (by decide) ?_))
        rw [zB_if, hy, if_neg (by decide)]
        exact zQk.id _ _ _ _
  · refine ⟨-2, fun I A t hC => zQy.mk 5 (by decide) ?_, fun I A t hM => zQy.mk 14 (by decide) ?_⟩
    · exact eX11_of _ _ _ _ (bX11_of_0 _ _ _ _ (zvO0 ob_0 (v_orderWith0 hC hn) (by decide) (zQk.id _ _ _ _)))
    · refine eX12_of_ _ _ _ _ (bX12_of__0 _ _ _ _ (zvRd ob_98 (m_thing0 hM hn) (by decide) ?_))
      rw [if_pos rfl]
      exact zQk.id _ _ _ _
end ZQu
