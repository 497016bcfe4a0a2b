/-! ===== is; lines ===== -/
theorem zvI1 {X : zX} {d d1 : Nat} {N : zM} {p ci : Nat} {av : List Value} {I A : zF2} {t : zW} {x : Int32} {P : zW → Prop} {K : Int32 → zW → Prop} (ho : zOb p ci) (h : zEv X d1 0 0 N av (zWd I A t) (fun v w1 => v = some (.int x) ∧ P w1)) (hd : d1 < d) (k : ∀ w1, P w1 → K x w1) : zIs (zWd I A t) p ci ∧ zCallI X d N av (zWd I A t) K :=
  ⟨ho.is, d1, _, hd, h, fun v w1 ⟨e1, e2⟩ => ⟨x, e1, k w1 e2⟩⟩
section ZQ2
variable {X : zX} {S : Nat → zSl} {x y z : Int32}
theorem zB_t {α : Sort _} {a b : α} {c : Bool} (h : c = true) : (if zB c = 0 then a else b) = b := by rw [zB_if, if_pos h]
theorem zB_f {α : Sort _} {a b : α} {c : Bool} (h : c = false) : (if zB c = 0 then a else b) = a := by rw [zB_if, if_neg (by rw [h]; decide)]
theorem q_is : zSame X MX11_is MX12_is [.int x, .int y] S := by
  rcases zslot S x with ⟨s, hs⟩ | hn
  · by_cases hy : zin 7 y = true
    · obtain ⟨k, hk, rfl⟩ := zin_e.mp hy
      refine ⟨zB (zisk (S s).1 (S s).2.1 k), fun I A t hC => zQy.mk 6 (by decide) ?_, fun I A t hM => zQy.mk 16 (by decide) ?_⟩
      · have h0 := hC s hs.1
        have h8 := h0.1.n8
        have f31 := zFF_31 (u := (S s).2.1) h8
        have t31 := ztw_31 (u := (S s).2.1) h8
        refine eX11_is _ _ _ (bX11_is_0 _ _ _ (zvO1 ob_0 (v_orderIn1 hC hs) (by decide) ⟨fun e => ?_, fun e => ?_, fun e => ?_, fun e => ?_, fun e => ?_, fun e => ?_, fun e => ?_, fun e => ?_⟩))
        · have := zcase (by omega) (by decide) (show nI k = nI 0 from e)
          subst this
          have h1 := v_freeTwos (X := X) (t := t) h0.1 hs.2.2
          rw [zfreeT h0.1.2.1] at h1
          refine zvRd h0.1.1.ob h1 (by decide) ?_
          rw [zi_0 (by omega)]
          unfold zisk
          by_cases c : zFF (S s).2.1 (S s).1 = 0
          · rw [if_pos c, decide_eq_true c]
            exact bX11_is_68 _ (zcRd (v_bit true) (by decide) (zQk.id _ _ _ _))
          · rw [if_neg c, decide_eq_false c]
            exact bX11_is_68 _ (zcRd (v_bit false) (by decide) (zQk.id _ _ _ _))
        · have := zcase (by omega) (by decide) (show nI k = nI 1 from e)
          subst this
          refine zvRd h0.1.1.ob (v_twos h0.1) (by decide) ?_
          rw [zi_0 (by omega)]
          unfold zisk
          by_cases c : ztw (S s).1 (S s).2.1 = 0
          · rw [if_pos c, decide_eq_true c]
            exact bX11_is_84 _ (zcRd (v_bit true) (by decide) (zQk.id _ _ _ _))
          · rw [if_neg c, decide_eq_false c]
            exact bX11_is_84 _ (zcRd (v_bit false) (by decide) (zQk.id _ _ _ _))
        · have := zcase (by omega) (by decide) (show nI k = nI 2 from e)
          subst this
          have h1 := v_hasNn (X := X) (t := t) h0.1
          rw [zHN_eq h0.1.2.1] at h1
          refine zcRd h1 (by decide) ?_
          rw [zB_if]
          unfold zisk
          cases zex4 (S s).1 (zkN (S s).2.1)
          · exact bX11_is_100 _ (zcRd (v_bit true) (by decide) (zQk.id _ _ _ _))
          · exact bX11_is_100 _ (zcRd (v_bit false) (by decide) (zQk.id _ _ _ _))
        · have := zcase (by omega) (by decide) (show nI k = nI 3 from e)
          subst this
          have h1 := v_hasTwoAndTwo (X := X) (t := t) h0.1
          rw [zH22_eq h0.1.2.1] at h1
          refine zcRd h1 (by decide) ?_
          rw [zB_if]
          unfold zisk
          cases zex4 (S s).1 (zk2 (S s).2.1)
          · exact bX11_is_116 _ (zcRd (v_bit true) (by decide) (zQk.id _ _ _ _))
          · exact bX11_is_116 _ (zcRd (v_bit false) (by decide) (zQk.id _ _ _ _))
        · have := zcase (by omega) (by decide) (show nI k = nI 4 from e)
          subst this
          have h1 := v_hasThreeAndOne (X := X) (t := t) h0.1
          have h2 := v_hasTwoAndTwo (X := X) (t := t) h0.1
          rw [zH31_eq h0.1.2.1] at h1
          rw [zH22_eq h0.1.2.1] at h2
          refine zcRd h1 (by decide) ?_
          rw [zB_if]
          unfold zisk
          cases zex4 (S s).1 (zk3 (S s).2.1)
          · refine zcRd h2 (by decide) ?_
            rw [zB_if]
            cases zex4 (S s).1 (zk2 (S s).2.1)
            · exact bX11_is_139 _ (zcRd (v_bit true) (by decide) (zQk.id _ _ _ _))
            · exact bX11_is_138 (bX11_is_139 _ (zcRd (v_bit false) (by decide) (zQk.id _ _ _ _)))
          · cases zex4 (S s).1 (zk2 (S s).2.1)
            · exact bX11_is_138 (bX11_is_139 _ (zcRd (v_bit false) (by decide) (zQk.id _ _ _ _)))
            · exact bX11_is_138 (bX11_is_139 _ (zcRd (v_bit false) (by decide) (zQk.id _ _ _ _)))
        · have := zcase (by omega) (by decide) (show nI k = nI 5 from e)
          subst this
          exact zcRd (v_isLattice h0.1) (by decide) (zcRd (v_bit _) (by decide) (zQk.id _ _ _ _))
        · have := zcase (by omega) (by decide) (show nI k = nI 6 from e)
          subst this
          refine ⟨_, fr_0_6.rd, zvI2 ob_80 (v_isLevelled h0.1) (by decide) ?_⟩
          rintro r w1 ⟨rfl, D, rfl⟩
          exact zcRd (v_bit _) (by decide) (zQk.of ((zKp.refl I A).a (by decide)))
        · exact absurd (znot (m := 7) rfl (by decide) hk) e
      · have h1 := m_ord1 (X := X) (I := I) (t := t) hM hs
        obtain ⟨s3, rfl, s0⟩ := hs
        refine eX12_is _ _ _ (bX12_is_0 _ _ _ (zvRd ob_98 h1 (by decide) ?_))
        rw [if_neg (by decide)]
        refine zcRd (m_inC (m := 6) _ (by decide) (by decide)) (by decide) ?_
        rw [zB_t hy]
        refine zvRd ob_98 (m_isSoS (hM s s3) s0 hk) (by decide) ?_
        rw [zB_if]
        cases zisk (S s).1 (S s).2.1 k
        · exact zQk.id _ _ _ _
        · exact zQk.id _ _ _ _
    · rw [Bool.not_eq_true] at hy
      refine ⟨-2, fun I A t hC => zQy.mk 6 (by decide) ?_, fun I A t hM => zQy.mk 16 (by decide) ?_⟩
      · exact eX11_is _ _ _ (bX11_is_0 _ _ _ (zvO1 ob_0 (v_orderIn1 hC hs) (by decide) ⟨fun e => (zneq hy (j := 0) (by decide) e).elim, fun e => (zneq hy (j := 1) (by decide) e).elim, fun e => (zneq hy (j := 2) (by decide) e).elim, fun e => (zneq hy (j := 3) (by decide) e).elim, fun e => (zneq hy (j := 4) (by decide) e).elim, fun e => (zneq hy (j := 5) (by decide) e).elim, fun e => (zneq hy (j := 6) (by decide) e).elim, fun _ => zQk.id _ _ _ _⟩))
      · refine eX12_is _ _ _ (bX12_is_0 _ _ _ (zvRd ob_98 (m_ord1 hM hs) (by decide) ?_))
        rw [if_neg (by decide)]
        refine zcRd (m_inC (m := 6) _ (by decide) (by decide)) (by decide) ?_
        rw [zB_f hy]
        exact bX12_is_20 (zQk.id _ _ _ _)
  · refine ⟨-2, fun I A t hC => zQy.mk 6 (by decide) ?_, fun I A t hM => zQy.mk 16 (by decide) ?_⟩
    · exact eX11_is _ _ _ (bX11_is_0 _ _ _ (zvO0 ob_0 (v_orderIn0 hC hn) (by decide) (zQk.id _ _ _ _)))
    · refine eX12_is _ _ _ (bX12_is_0 _ _ _ (zvRd ob_98 (m_ord0 hM hn) (by decide) ?_))
      rw [if_pos rfl]
      exact bX12_is_20 (zQk.id _ _ _ _)
theorem q_lines : zSame X MX11_lines MX12_lines [.int x] S := by
  rcases zslot S x with ⟨s, hs⟩ | hn
  · refine ⟨nI (zGl (S s).1 (S s).2.1 0), fun I A t hC => zQy.mk 6 (by decide) ?_, fun I A t hM => zQy.mk 16 (by decide) ?_⟩
    · have h0 := hC s hs.1
      refine eX11_lines _ _ (bX11_lines_0 _ _ (zvO1 ob_0 (v_orderIn1 hC hs) (by decide) (zvR2 ob_0 (v_linesOf h0.1) (by decide) ?_)))
      rintro w1 ⟨B, C, rfl, hL⟩
      exact zvRd ob_84 (v_total h0.1.2.1 hL) (by decide) (zQk.of (zKp.bc I A B C))
    · have h1 := m_ord1 (X := X) (I := I) (t := t) hM hs
      obtain ⟨s3, rfl, s0⟩ := hs
      have h0 := hM s s3
      have hp := Nat.one_le_two_pow (n := (S s).1)
      have h28 := z28 h0.2.1.1
      refine eX12_lines _ _ (bX12_lines_0 _ _ (zvRd ob_98 h1 (by decide) ?_))
      rw [if_neg (by decide)]
      refine zvV ob_98 (m_laysLines h0) (by decide) ?_
      rintro w1 ⟨B, C, rfl, hL⟩
      refine ⟨_, fr_98_14.rd, _, fi_98_16.rd, ?_⟩
      rw [hL.1]
      exact ⟨_, (ar_104.rd (by omega)).trans (by rw [(hL.2 _ (by omega)).1, zFG h0.2.1.1]), zQk.of (zKp.mc I A _ B C)⟩
  · refine ⟨-2, fun I A t hC => zQy.mk 6 (by decide) ?_, fun I A t hM => zQy.mk 16 (by decide) ?_⟩
    · exact eX11_lines _ _ (bX11_lines_0 _ _ (zvO0 ob_0 (v_orderIn0 hC hn) (by decide) (zQk.id _ _ _ _)))
    · refine eX12_lines _ _ (bX12_lines_0 _ _ (zvRd ob_98 (m_ord0 hM hn) (by decide) ?_))
      rw [if_pos rfl]
      exact zQk.id _ _ _ _
theorem q_line : zSame X MX11_line MX12_line [.int x, .int y, .int z] S := by
  rcases zslot S x with ⟨s, hs⟩ | hn
  · by_cases hz : zin (S s).1 z = true
    · obtain ⟨i, hi, rfl⟩ := zin_e.mp hz
      by_cases hy : 0 ≤ y
      · obtain ⟨k, hk, rfl⟩ := nI_of (Int32.not_lt.mpr hy)
        refine ⟨if k < zGl (S s).1 (S s).2.1 0 then nI (zLi (S s).1 (S s).2.1 k i) else -1, fun I A t hC => zQy.mk 6 (by decide) ?_, fun I A t hM => zQy.mk 16 (by decide) ?_⟩
        · have h0 := hC s hs.1
          refine eX11_line _ _ _ _ (bX11_line_0 _ _ _ _ (zvO1 ob_0 (v_orderWith2 hC hs hi) (by decide) ?_))
          rw [if_pos hy]
          refine zvR2 ob_0 (v_linesOf h0.1) (by decide) ?_
          rintro w1 ⟨B, C, rfl, hL⟩
          exact zvRd ob_84 (v_lineAt (zBC_or h0.1 B C) hL hk hi) (by decide) (zQk.of (zKp.bc I A B C))
        · have h1 := m_ord1 (X := X) (I := I) (t := t) hM hs
          obtain ⟨s3, rfl, s0⟩ := hs
          have h0 := hM s s3
          have h8 := h0.2.1.1
          refine eX12_line _ _ _ _ (bX12_line_0 _ _ _ _ (zvRd ob_98 h1 (by decide) ?_))
          rw [if_neg (by decide), if_neg (nI_pos hk)]
          refine zvRd ob_98 (m_many h0) (by decide) (zcRd (m_inN _ s0 (by omega)) (by decide) ?_)
          rw [zB_t hz]
          refine zvI1 ob_98 (m_laysLine h0 hk) (by decide) ?_
          rintro w1 ⟨B, C, D, rfl, hD⟩
          rw [zB_ifP]
          by_cases hk2 : k < zGl (S s).1 (S s).2.1 0
          · rw [if_pos hk2, if_pos hk2]
            exact ⟨_, fr_98_17.rd, _, (ar_106.rd (by omega)).trans (by rw [zup_eq, hD hk2 i hi]), zQk.of ((zKp.mc I A _ B C).a (by decide))⟩
          · rw [if_neg hk2, if_neg hk2]
            exact zQk.of ((zKp.mc I A _ B C).a (by decide))
      · refine ⟨-2, fun I A t hC => zQy.mk 6 (by decide) ?_, fun I A t hM => zQy.mk 16 (by decide) ?_⟩
        · refine eX11_line _ _ _ _ (bX11_line_0 _ _ _ _ (zvO1 ob_0 (v_orderWith2 hC hs hi) (by decide) ?_))
          rw [if_neg hy]
          exact zQk.id _ _ _ _
        · refine eX12_line _ _ _ _ (bX12_line_0 _ _ _ _ (zvRd ob_98 (m_ord1 hM hs) (by decide) ?_))
          rw [if_neg (by decide), if_pos (Int32.not_le.mp hy)]
          exact zQk.id _ _ _ _
    · rw [Bool.not_eq_true] at hz
      refine ⟨-2, fun I A t hC => zQy.mk 6 (by decide) ?_, fun I A t hM => zQy.mk 16 (by decide) ?_⟩
      · exact eX11_line _ _ _ _ (bX11_line_0 _ _ _ _ (zvO0 ob_0 (v_orderWith1 hC hs hz) (by decide) (zQk.id _ _ _ _)))
      · have h1 := m_ord1 (X := X) (I := I) (t := t) hM hs
        obtain ⟨s3, rfl, s0⟩ := hs
        have h8 := (hM s s3).2.1.1
        refine eX12_line _ _ _ _ (bX12_line_0 _ _ _ _ (zvRd ob_98 h1 (by decide) ?_))
        rw [if_neg (by decide)]
        by_cases hy : y < 0
        · rw [if_pos hy]
          exact zQk.id _ _ _ _
        · rw [if_neg hy]
          refine zvRd ob_98 (m_many (hM s s3)) (by decide) (zcRd (m_inN _ s0 (by omega)) (by decide) ?_)
          rw [zB_f hz]
          exact zQk.id _ _ _ _
  · refine ⟨-2, fun I A t hC => zQy.mk 6 (by decide) ?_, fun I A t hM => zQy.mk 16 (by decide) ?_⟩
    · exact eX11_line _ _ _ _ (bX11_line_0 _ _ _ _ (zvO0 ob_0 (v_orderWith0 hC hn) (by decide) (zQk.id _ _ _ _)))
    · refine eX12_line _ _ _ _ (bX12_line_0 _ _ _ _ (zvRd ob_98 (m_ord0 hM hn) (by decide) ?_))
      rw [if_pos rfl]
      exact zQk.id _ _ _ _
theorem m_rankL {I A : zF2} {t : zW} {s n R : Nat} {u : Nat → Nat} {h : Nat → Nat → Nat} (H : zMR A s n u R h) (hL : zLm I A n u) {r : Nat} (hr : r < R) {Q : Option Value → zW → Prop} (hQ : Q (some (.int (nI (zNr n u (h r))))) (zWd I A t)) : zRn X 16 0 0 MX12_rank 36 [some (.ref 98), some (.int (nI s)), some (.int (nI r)), some (.int 0), some (.int 0), some (.int 0), none] [] (zWd I A t) Q := by
  have h8 := H.2.1.1
  have h28 := z28 h8
  have hr6 := H.2.2.1.1
  obtain ⟨f1, f2⟩ := H.2.2.1.f hr
  refine zdown (P := fun i => zRn X 16 0 0 MX12_rank 36 [some (.ref 98), some (.int (nI s)), some (.int (nI r)), some (.int (nI (zsm i (fun i => zsm (h r i) (zWG n u (zRw (h r) i)))))), some (.int (nI (zRw (h r) i))), some (.int (nI i)), none] [] (zWd I A t) Q) (n := n) ?_ (fun i hi ih => ?_) 0 (Nat.zero_le _)
  · refine bX12_rank_36 _ _ _ _ _ _ (zvRd ob_98 (m_many H) (by decide) ?_)
    rw [if_pos (Int32.le_refl _)]
    exact hQ
  · have hlt := zRw_lt f1 i (by omega)
    have hfi := f1 i hi
    refine bX12_rank_36 _ _ _ _ _ _ (zvRd ob_98 (m_many H) (by decide) ?_)
    rw [zi_le (by omega) (by omega), if_neg (by omega)]
    rw [zsm_s, zRw_s] at ih
    generalize zsm i (fun i => zsm (h r i) (zWG n u (zRw (h r) i))) = T at *
    have inner : ∀ a, a ≤ h r i → zRn X 16 0 0 MX12_rank 49 [some (.ref 98), some (.int (nI s)), some (.int (nI r)), some (.int (nI (T + zsm a (zWG n u (zRw (h r) i))))), some (.int (nI (zRw (h r) i))), some (.int (nI i)), some (.int (nI a))] [] (zWd I A t) Q := by
      refine zdown ?_ ?_
      · refine bX12_rank_49 _ _ _ _ _ _ _ (zvRd ob_98 (m_rowAt H (by omega) (by omega)) (by decide) ?_)
        rw [if_pos (Int32.le_refl _)]
        refine zvRd ob_98 (m_rowAt H (by omega) (by omega)) (by decide) ?_
        rw [zb_1 _ (by omega), zb_or, nI_1]
        exact ih
      · intro a ha iha
        refine bX12_rank_49 _ _ _ _ _ _ _ (zvRd ob_98 (m_rowAt H (by omega) (by omega)) (by decide) ?_)
        rw [zi_le (by omega) (by omega), if_neg (by omega)]
        rw [zsm_s, ← Nat.add_assoc] at iha
        generalize T + zsm a (zWG n u (zRw (h r) i)) = T1 at *
        have go : ∀ m : Nat, m = zWG n u (zRw (h r) i) a → zRn X 16 0 0 MX12_rank 104 [some (.ref 98), some (.int (nI s)), some (.int (nI r)), none, some (.int (nI (zRw (h r) i))), some (.int (nI i)), some (.int (nI a))] [.int (nI m), .int (nI T1)] (zWd I A t) Q := by
          intro m hm
          refine bX12_rank_104 _ _ _ _ _ _ _ _ ?_
          rw [nI_add, nI_1, hm]
          exact iha
        refine zcRd (m_has (by omega) (by omega)) (by decide) ?_
        rw [zB_if]
        by_cases hb : (zRw (h r) i).testBit a = true
        · rw [if_pos hb]
          refine bX12_rank_103 _ _ _ _ _ _ _ (go 0 ?_)
          unfold zWG zcf
          rw [hb]
          simp
        · rw [if_neg hb]
          refine zvRd ob_98 (m_under H (by omega)) (by decide) ?_
          have hz : zdf (u a) (zRw (h r) i) < 2 ^ 8 := zdf_lt (H.2.1.u31 _)
          rw [zb_df, zi_0 (by omega)]
          by_cases h0 : zdf (u a) (zRw (h r) i) = 0
          · rw [if_pos h0]
            have hc : zcf n u (zRw (h r) i) a = true := by
              unfold zcf
              simp [show a < n by omega, hb, h0]
            have hl2 := zor_lt hlt (show a < n by omega)
            have e2 : zaI (zWd I A t) 105 (nI (zRw (h r) i) ||| (1 : Int32) <<< (nI a &&& 31)) = some (nI (zWG n u (zRw (h r) i) a)) := by
              rw [zb_1 a (by omega), zb_or]
              refine (ar_105.rd (by omega)).trans ?_
              rw [(hL.2 _ hl2).2]
              unfold zWG
              rw [if_pos hc]
            exact ⟨_, fr_98_15.rd, _, e2, go _ rfl⟩
          · rw [if_neg h0]
            refine bX12_rank_103 _ _ _ _ _ _ _ (go 0 ?_)
            unfold zWG zcf
            simp [h0]
    have i0 := inner 0 (Nat.zero_le _)
    rw [zsm_z, Nat.add_zero] at i0
    exact i0
theorem zBC_rr {I A : zF2} {q n R : Nat} {h : Nat → Nat → Nat} (hq : zOq q) (H : zRR I A q n R h) (B C : Nat → Int32) : zRR I (zBC A B C) q n R h := by
  have hl : q + 4 < 75 := by
    rcases hq with ⟨s, hs, rfl⟩ | ⟨s, hs, rfl⟩ <;> omega
  refine ⟨H.1, H.2.1, fun r i hr hi => ?_⟩
  unfold zBC
  rw [zup_ne (by omega), zup_ne (by omega)]
  exact H.2.2 r i hr hi
theorem q_rank : zSame X MX11_rank MX12_rank [.int x, .int y] S := by
  rcases zslot S x with ⟨s, hs⟩ | hn
  · by_cases hy : zin (S s).2.2.1 y = true
    · obtain ⟨r, hr, rfl⟩ := zin_e.mp hy
      refine ⟨if zIL (S s).1 (S s).2.1 ((S s).2.2.2 r) = true then nI (zNr (S s).1 (S s).2.1 ((S s).2.2.2 r)) else -1, fun I A t hC => zQy.mk 6 (by decide) ?_, fun I A t hM => zQy.mk 16 (by decide) ?_⟩
      · have h0 := hC s hs.1
        refine eX11_rank _ _ _ (bX11_rank_0 _ _ _ (zvO1 ob_0 (v_orderWithRow2 hC hs hr) (by decide) (zvR2 ob_0 (v_linesOf h0.1) (by decide) ?_)))
        rintro w1 ⟨B, C, rfl, hL⟩
        exact zvRd ob_84 (v_numberOf (zBC_or h0.1 B C) hL (zBC_rr h0.1.1 h0.2 B C) hr) (by decide) (zQk.of (zKp.bc I A B C))
      · have h1 := m_row1 (X := X) (I := I) (t := t) (y := nI r) hM hs
        obtain ⟨s3, rfl, s0⟩ := hs
        have h0 := hM s s3
        refine eX12_rank _ _ _ (bX12_rank_0 _ _ _ (zvRd ob_98 h1 (by decide) ?_))
        rw [zB_t hy]
        refine zvRd ob_98 (m_isLine h0 hr) (by decide) ?_
        rw [zB_if]
        by_cases c : zIL (S s).1 (S s).2.1 ((S s).2.2.2 r) = true
        · rw [if_pos c, if_pos c]
          refine zvV ob_98 (m_laysLines h0) (by decide) ?_
          rintro w1 ⟨B, C, rfl, hL⟩
          exact m_rankL (zMC_H h0 B C) hL hr (zQk.of (zKp.mc I A _ B C))
        · rw [if_neg c, if_neg c]
          exact zQk.id _ _ _ _
    · rw [Bool.not_eq_true] at hy
      refine ⟨-2, fun I A t hC => zQy.mk 6 (by decide) ?_, fun I A t hM => zQy.mk 16 (by decide) ?_⟩
      · exact eX11_rank _ _ _ (bX11_rank_0 _ _ _ (zvO0 ob_0 (v_orderWithRow1 hC hs hy) (by decide) (zQk.id _ _ _ _)))
      · refine eX12_rank _ _ _ (bX12_rank_0 _ _ _ (zvRd ob_98 (m_row1 hM hs) (by decide) ?_))
        rw [zB_f hy]
        exact zQk.id _ _ _ _
  · refine ⟨-2, fun I A t hC => zQy.mk 6 (by decide) ?_, fun I A t hM => zQy.mk 16 (by decide) ?_⟩
    · exact eX11_rank _ _ _ (bX11_rank_0 _ _ _ (zvO0 ob_0 (v_orderWithRow0 hC hn) (by decide) (zQk.id _ _ _ _)))
    · refine eX12_rank _ _ _ (bX12_rank_0 _ _ _ (zvRd ob_98 (m_row0 hM hn) (by decide) ?_))
      rw [if_pos rfl]
      exact zQk.id _ _ _ _
theorem q_through : zSame X MX11_through MX12_through [.int x, .int y] S := by
  rcases zslot S x with ⟨s, hs⟩ | hn
  · by_cases hy : zin (2 ^ (S s).1) y = true
    · obtain ⟨m, hm, rfl⟩ := zin_e.mp hy
      refine ⟨nI (zTh (S s).1 (S s).2.1 m), fun I A t hC => zQy.mk 6 (by decide) ?_, fun I A t hM => zQy.mk 16 (by decide) ?_⟩
      · have h0 := hC s hs.1
        have h28 := z28 h0.1.n8
        refine eX11_through _ _ _ (bX11_through_0 _ _ _ (zvO1 ob_0 (v_orderIn1 hC hs) (by decide) ?_))
        rw [if_neg (nI_pos (by omega))]
        refine zvRd h0.1.1.ob (v_all h0.1) (by decide) ?_
        rw [zi_le (by omega) (by omega), if_pos (by omega)]
        refine zvR2 ob_0 (v_linesOf h0.1) (by decide) ?_
        rintro w1 ⟨B, C, rfl, hL⟩
        exact zvRd ob_84 (v_thatBeginWith h0.1.2.1 hL hm) (by decide) (zQk.of (zKp.bc I A B C))
      · have h1 := m_ord1 (X := X) (I := I) (t := t) hM hs
        obtain ⟨s3, rfl, s0⟩ := hs
        have h0 := hM s s3
        have h8 := h0.2.1.1
        have h28 := z28 h8
        refine eX12_through _ _ _ (bX12_through_0 _ _ _ (zvRd ob_98 h1 (by decide) ?_))
        rw [if_neg (by decide)]
        refine zvRd ob_98 (m_many h0) (by decide) ?_
        rw [zb_1 _ (by omega)]
        refine zcRd (m_inN _ (Nat.two_pow_pos _) (by omega)) (by decide) ?_
        rw [zB_t hy]
        refine zvV ob_98 (m_laysLines h0) (by decide) ?_
        rintro w1 ⟨B, C, rfl, hL⟩
        refine zvRd ob_98 (m_isIdeal (zMC_H h0 B C) (by omega)) (by decide) ?_
        rw [zB_if]
        unfold zTh
        by_cases c : zid (S s).1 (S s).2.1 m = true
        · rw [if_pos c, if_pos c]
          refine ⟨_, fr_98_14.rd, _, (ar_104.rd (by omega)).trans (by rw [(hL.2 m hm).1]), _, fr_98_15.rd, _, (ar_105.rd (by omega)).trans (by rw [(hL.2 m hm).2]), ?_⟩
          rw [pk_mul]
          exact zQk.of (zKp.mc I A _ B C)
        · rw [if_neg c, if_neg c]
          exact zQk.of (zKp.mc I A _ B C)
    · rw [Bool.not_eq_true] at hy
      refine ⟨-2, fun I A t hC => zQy.mk 6 (by decide) ?_, fun I A t hM => zQy.mk 16 (by decide) ?_⟩
      · have h0 := hC s hs.1
        have h28 := z28 h0.1.n8
        have hp := Nat.one_le_two_pow (n := (S s).1)
        refine eX11_through _ _ _ (bX11_through_0 _ _ _ (zvO1 ob_0 (v_orderIn1 hC hs) (by decide) ?_))
        by_cases h1 : y < 0
        · rw [if_pos h1]
          exact zQk.id _ _ _ _
        · rw [if_neg h1]
          refine zvRd h0.1.1.ob (v_all h0.1) (by decide) ?_
          rw [if_neg]
          · exact zQk.id _ _ _ _
          · intro h2
            obtain ⟨j, hj, rfl⟩ := nI_of2 (M := nI (2 ^ (S s).1 - 1)) (n := 2 ^ (S s).1 - 1) (nI_toInt (by omega)) h1 h2
            exact zneq hy (j := j) (by omega) rfl
      · have h1 := m_ord1 (X := X) (I := I) (t := t) hM hs
        obtain ⟨s3, rfl, s0⟩ := hs
        have h0 := hM s s3
        have h8 := h0.2.1.1
        have h28 := z28 h8
        refine eX12_through _ _ _ (bX12_through_0 _ _ _ (zvRd ob_98 h1 (by decide) ?_))
        rw [if_neg (by decide)]
        refine zvRd ob_98 (m_many h0) (by decide) ?_
        rw [zb_1 _ (by omega)]
        refine zcRd (m_inN _ (Nat.two_pow_pos _) (by omega)) (by decide) ?_
        rw [zB_f hy]
        exact zQk.id _ _ _ _
  · refine ⟨-2, fun I A t hC => zQy.mk 6 (by decide) ?_, fun I A t hM => zQy.mk 16 (by decide) ?_⟩
    · exact eX11_through _ _ _ (bX11_through_0 _ _ _ (zvO0 ob_0 (v_orderIn0 hC hn) (by decide) (zQk.id _ _ _ _)))
    · refine eX12_through _ _ _ (bX12_through_0 _ _ _ (zvRd ob_98 (m_ord0 hM hn) (by decide) ?_))
      rw [if_pos rfl]
      exact zQk.id _ _ _ _
end ZQ2
