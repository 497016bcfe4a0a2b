/-! ===== before, at, mean, balance ===== -/
theorem zBf_self (n : Nat) (u : Nat → Nat) (a : Nat) : zBf n u a a = 0 := by
  unfold zBf
  refine zsm_0 (fun s _ => ?_)
  rw [if_neg]
  rintro ⟨h1, h2, -⟩
  rw [(zcf_s h2).2.1] at h1
  cases h1
section ZQ3
variable {X : zX} {S : Nat → zSl} {x y z : Int32}
theorem q_before : zSame X MX11_before MX12_before [.int x, .int y, .int z] S := by
  rcases zslot S x with ⟨s, hs⟩ | hn
  · by_cases hy : zin (S s).1 y = true
    · obtain ⟨a, ha, rfl⟩ := zin_e.mp hy
      by_cases hz : zin (S s).1 z = true
      · obtain ⟨b, hb, rfl⟩ := zin_e.mp hz
        refine ⟨nI (zBf (S s).1 (S s).2.1 a b), fun I A t hC => zQy.mk 6 (by decide) ?_, fun I A t hM => zQy.mk 16 (by decide) ?_⟩
        · have h0 := hC s hs.1
          have h8 := h0.1.n8
          refine eX11_before _ _ _ _ (bX11_before_0 _ _ _ _ (zvO1 ob_0 (v_orderWith2 hC hs ha) (by decide) (zvRd h0.1.1.ob (v_hasN h0.1 (by omega)) (by decide) ?_)))
          rw [zB_ifP, if_pos hb]
          refine zvR2 ob_0 (v_linesOf h0.1) (by decide) ?_
          rintro w1 ⟨B, C, rfl, hL⟩
          exact zvRd ob_84 (v_withFirstAhead (zBC_or h0.1 B C) hL (by omega) (by omega)) (by decide) (zQk.of (zKp.bc I A B C))
        · have h1 := m_thing1 (X := X) (I := I) (t := t) (y := nI a) hM hs
          have h2 := m_thing1 (X := X) (I := I) (t := t) (y := nI b) hM hs
          obtain ⟨s3, rfl, s0⟩ := hs
          have h0 := hM s s3
          have h8 := h0.2.1.1
          refine eX12_before _ _ _ _ (bX12_before_0 _ _ _ _ (zvRd ob_98 h1 (by decide) ?_))
          rw [zB_t hy]
          refine zvRd ob_98 h2 (by decide) ?_
          rw [zB_t hz]
          refine zvV ob_98 (m_laysLines h0) (by decide) ?_
          rintro w1 ⟨B, C, rfl, hL⟩
          rw [zi_eq (by omega) (by omega)]
          by_cases e : a = b
          · rw [if_pos e, e, zBf_self]
            exact zQk.of (zKp.mc I A _ B C)
          · rw [if_neg e]
            exact zvRd ob_98 (m_beforeOf (zMC_H h0 B C) hL ha hb) (by decide) (zQk.of (zKp.mc I A _ B C))
      · rw [Bool.not_eq_true] at hz
        refine ⟨-2, fun I A t hC => zQy.mk 6 (by decide) ?_, fun I A t hM => zQy.mk 16 (by decide) ?_⟩
        · have h0 := hC s hs.1
          have h8 := h0.1.n8
          refine eX11_before _ _ _ _ (bX11_before_0 _ _ _ _ (zvO1 ob_0 (v_orderWith2 hC hs ha) (by decide) (zvRd h0.1.1.ob (v_has h0.1 z) (by decide) ?_)))
          rw [zin_h (by omega), zB_f hz]
          exact zQk.id _ _ _ _
        · refine eX12_before _ _ _ _ (bX12_before_0 _ _ _ _ (zvRd ob_98 (m_thing1 hM hs) (by decide) ?_))
          rw [zB_t hy]
          refine zvRd ob_98 (m_thing1 hM hs) (by decide) ?_
          rw [zB_f hz]
          exact zQk.id _ _ _ _
    · rw [Bool.not_eq_true] at hy
      refine ⟨-2, fun I A t hC => zQy.mk 6 (by decide) ?_, fun I A t hM => zQy.mk 16 (by decide) ?_⟩
      · exact eX11_before _ _ _ _ (bX11_before_0 _ _ _ _ (zvO0 ob_0 (v_orderWith1 hC hs hy) (by decide) (zQk.id _ _ _ _)))
      · refine eX12_before _ _ _ _ (bX12_before_0 _ _ _ _ (zvRd ob_98 (m_thing1 hM hs) (by decide) ?_))
        rw [zB_f hy]
        exact zQk.id _ _ _ _
  · refine ⟨-2, fun I A t hC => zQy.mk 6 (by decide) ?_, fun I A t hM => zQy.mk 16 (by decide) ?_⟩
    · exact eX11_before _ _ _ _ (bX11_before_0 _ _ _ _ (zvO0 ob_0 (v_orderWith0 hC hn) (by decide) (zQk.id _ _ _ _)))
    · refine eX12_before _ _ _ _ (bX12_before_0 _ _ _ _ (zvRd ob_98 (m_thing0 hM hn) (by decide) ?_))
      rw [if_pos rfl]
      exact zQk.id _ _ _ _
theorem q_at : zSame X MX11_at MX12_at [.int x, .int y, .int z] S := by
  rcases zslot S x with ⟨s, hs⟩ | hn
  · by_cases hy : zin (S s).1 y = true
    · obtain ⟨a, ha, rfl⟩ := zin_e.mp hy
      by_cases hz : zin (S s).1 z = true
      · obtain ⟨b, hb, rfl⟩ := zin_e.mp hz
        refine ⟨nI (zAt (S s).1 (S s).2.1 a b), fun I A t hC => zQy.mk 6 (by decide) ?_, fun I A t hM => zQy.mk 16 (by decide) ?_⟩
        · have h0 := hC s hs.1
          have h8 := h0.1.n8
          refine eX11_at _ _ _ _ (bX11_at_0 _ _ _ _ (zvO1 ob_0 (v_orderWith2 hC hs ha) (by decide) (zvRd h0.1.1.ob (v_hasN h0.1 (by omega)) (by decide) ?_)))
          rw [zB_ifP, if_pos hb]
          refine zvR2 ob_0 (v_linesOf h0.1) (by decide) ?_
          rintro w1 ⟨B, C, rfl, hL⟩
          exact zvRd ob_84 (v_withThingAt (zBC_or h0.1 B C) hL (by omega) (by omega)) (by decide) (zQk.of (zKp.bc I A B C))
        · have h1 := m_thing1 (X := X) (I := I) (t := t) (y := nI a) hM hs
          obtain ⟨s3, rfl, s0⟩ := hs
          have h0 := hM s s3
          have h8 := h0.2.1.1
          refine eX12_at _ _ _ _ (bX12_at_0 _ _ _ _ (zvRd ob_98 h1 (by decide) ?_))
          rw [zB_t hy]
          refine zvRd ob_98 (m_many h0) (by decide) (zcRd (m_inN _ s0 (by omega)) (by decide) ?_)
          rw [zB_t hz]
          refine zvV ob_98 (m_laysLines h0) (by decide) ?_
          rintro w1 ⟨B, C, rfl, hL⟩
          exact zvRd ob_98 (m_atOf (zMC_H h0 B C) hL ha (by omega)) (by decide) (zQk.of (zKp.mc I A _ B C))
      · rw [Bool.not_eq_true] at hz
        refine ⟨-2, fun I A t hC => zQy.mk 6 (by decide) ?_, fun I A t hM => zQy.mk 16 (by decide) ?_⟩
        · have h0 := hC s hs.1
          have h8 := h0.1.n8
          refine eX11_at _ _ _ _ (bX11_at_0 _ _ _ _ (zvO1 ob_0 (v_orderWith2 hC hs ha) (by decide) (zvRd h0.1.1.ob (v_has h0.1 z) (by decide) ?_)))
          rw [zin_h (by omega), zB_f hz]
          exact zQk.id _ _ _ _
        · have h1 := m_thing1 (X := X) (I := I) (t := t) (y := nI a) hM hs
          obtain ⟨s3, rfl, s0⟩ := hs
          have h0 := hM s s3
          have h8 := h0.2.1.1
          refine eX12_at _ _ _ _ (bX12_at_0 _ _ _ _ (zvRd ob_98 h1 (by decide) ?_))
          rw [zB_t hy]
          refine zvRd ob_98 (m_many h0) (by decide) (zcRd (m_inN _ s0 (by omega)) (by decide) ?_)
          rw [zB_f hz]
          exact zQk.id _ _ _ _
    · rw [Bool.not_eq_true] at hy
      refine ⟨-2, fun I A t hC => zQy.mk 6 (by decide) ?_, fun I A t hM => zQy.mk 16 (by decide) ?_⟩
      · exact eX11_at _ _ _ _ (bX11_at_0 _ _ _ _ (zvO0 ob_0 (v_orderWith1 hC hs hy) (by decide) (zQk.id _ _ _ _)))
      · refine eX12_at _ _ _ _ (bX12_at_0 _ _ _ _ (zvRd ob_98 (m_thing1 hM hs) (by decide) ?_))
        rw [zB_f hy]
        exact zQk.id _ _ _ _
  · refine ⟨-2, fun I A t hC => zQy.mk 6 (by decide) ?_, fun I A t hM => zQy.mk 16 (by decide) ?_⟩
    · exact eX11_at _ _ _ _ (bX11_at_0 _ _ _ _ (zvO0 ob_0 (v_orderWith0 hC hn) (by decide) (zQk.id _ _ _ _)))
    · refine eX12_at _ _ _ _ (bX12_at_0 _ _ _ _ (zvRd ob_98 (m_thing0 hM hn) (by decide) ?_))
      rw [if_pos rfl]
      exact zQk.id _ _ _ _
theorem q_mean : zSame X MX11_mean MX12_mean [.int x, .int y, .int z] S := by
  rcases zslot S x with ⟨s, hs⟩ | hn
  · by_cases hy : zin (S s).1 y = true
    · obtain ⟨a, ha, rfl⟩ := zin_e.mp hy
      by_cases hz : zin 2 z = true
      · obtain ⟨b, hb, rfl⟩ := zin_e.mp hz
        refine ⟨nI ((if b = 0 then zPS (S s).1 (S s).2.1 a else zGl (S s).1 (S s).2.1 0) / Nat.gcd (zPS (S s).1 (S s).2.1 a) (zGl (S s).1 (S s).2.1 0)), fun I A t hC => zQy.mk 6 (by decide) ?_, fun I A t hM => zQy.mk 80 (by decide) ?_⟩
        · have h0 := hC s hs.1
          have h8 := h0.1.n8
          have g0 := zGl_pos h0.1.2.1
          have g31 := zGl_31 (u := (S s).2.1) h8 (Nat.two_pow_pos (S s).1)
          have p31 := zPS_31 (u := (S s).2.1) h8 a
          have d0 := Nat.gcd_pos_of_pos_right (zPS (S s).1 (S s).2.1 a) g0
          have d31 := Nat.gcd_le_right (zPS (S s).1 (S s).2.1 a) g0
          refine eX11_mean _ _ _ _ (bX11_mean_0 _ _ _ _ (zvO1 ob_0 (v_orderWith2 hC hs ha) (by decide) (zcRd (v_isBit _) (by decide) ?_)))
          rw [zB_t hz]
          refine zvR2 ob_0 (v_linesOf h0.1) (by decide) ?_
          rintro w1 ⟨B, C, rfl, hL⟩
          refine zvRd ob_84 (v_total h0.1.2.1 hL) (by decide) ⟨_, fr_0_7.rd, zvRd ob_84 (v_placeSum (zBC_or h0.1 B C) hL ha) (by decide) (zcRd (v_commonDivisor (by omega) (by omega)) (by decide) ?_)⟩
          rw [zi_0 (by omega), if_neg (by omega), zi_0 (by omega)]
          have ne : ¬ nI (Nat.gcd (zPS (S s).1 (S s).2.1 a) (zGl (S s).1 (S s).2.1 0)) = 0 := by rw [zb_0 (by omega)]; omega
          by_cases c : b = 0
          · rw [if_pos c, if_pos c, pk_div (by omega) d0 (by omega)]
            exact ⟨ne, zQk.of (zKp.bc I A B C)⟩
          · rw [if_neg c, if_neg c, pk_div (by omega) d0 (by omega)]
            exact ⟨ne, zQk.of (zKp.bc I A B C)⟩
        · have h1 := m_thing1 (X := X) (I := I) (t := t) (y := nI a) hM hs
          obtain ⟨s3, rfl, s0⟩ := hs
          have h0 := hM s s3
          have h8 := h0.2.1.1
          have h28 := z28 h8
          have hp := Nat.one_le_two_pow (n := (S s).1)
          have g0 := zGl_pos h0.2.1
          have g31 := zGl_31 (u := (S s).2.1) h8 (Nat.two_pow_pos (S s).1)
          have p31 := zPS_31 (u := (S s).2.1) h8 a
          have d0 := Nat.gcd_pos_of_pos_right (zPS (S s).1 (S s).2.1 a) g0
          have d31 := Nat.gcd_le_right (zPS (S s).1 (S s).2.1 a) g0
          refine eX12_mean _ _ _ _ (bX12_mean_0 _ _ _ _ (zvRd ob_98 h1 (by decide) ?_))
          rw [zB_t hy]
          refine zcRd (m_inC (m := 1) _ (by decide) (by decide)) (by decide) ?_
          rw [zB_t hz]
          refine zvV ob_98 (m_laysLines h0) (by decide) ?_
          rintro w1 ⟨B, C, rfl, hL⟩
          have HM := zMC_H h0 B C
          have ef : zaI (zWd (zIf I 16 (nI (2 ^ (S s).1 - 1))) (zMC A B C) t) 104 (nI (2 ^ (S s).1 - 1)) = some (nI (zGl (S s).1 (S s).2.1 0)) := (ar_104.rd (by omega)).trans (by rw [(hL.2 _ (by omega)).1, zFG h8])
          refine zdown (P := fun i => zRn X 80 0 0 MX12_mean 33 [some (.ref 98), some (.int (nI s)), some (.int (nI a)), some (.int (nI b)), some (.int (nI (zsm i (fun i => i * zAt (S s).1 (S s).2.1 a i)))), some (.int (nI i))] [] (zWd (zIf I 16 (nI (2 ^ (S s).1 - 1))) (zMC A B C) t) _) (n := (S s).1) ?_ (fun i hi ih => ?_) 0 (Nat.zero_le _)
          · refine bX12_mean_33 _ _ _ _ _ _ (zvRd ob_98 (m_many HM) (by decide) ?_)
            rw [if_pos (Int32.le_refl _)]
            refine ⟨_, fr_98_14.rd, _, fi_98_16.rd, ?_⟩
            rw [hL.1]
            have hc := m_common (X := X) (w := zWd (zIf I 16 (nI (2 ^ (S s).1 - 1))) (zMC A B C) t) 31 (zGl (S s).1 (S s).2.1 0) (zPS (S s).1 (S s).2.1 a) (by omega) (by omega) (by omega)
            rw [Nat.gcd_comm] at hc
            refine ⟨_, ef, zcRd hc (by decide) ?_⟩
            have ne : ¬ nI (Nat.gcd (zPS (S s).1 (S s).2.1 a) (zGl (S s).1 (S s).2.1 0)) = 0 := by rw [zb_0 (by omega)]; omega
            rw [zi_0 (by omega)]
            by_cases c : b = 0
            · rw [if_pos c, if_pos c]
              have hd := pk_div (a := zPS (S s).1 (S s).2.1 a) (by omega) d0 (by omega)
              refine ⟨ne, ?_⟩
              rw [← hd]
              exact zQk.of (zKp.mc I A _ B C)
            · rw [if_neg c, if_neg c]
              refine ⟨_, fr_98_14.rd, _, fi_98_16.rd, ?_⟩
              rw [hL.1]
              refine ⟨_, ef, ne, ?_⟩
              rw [pk_div (by omega) d0 (by omega)]
              exact zQk.of (zKp.mc I A _ B C)
          · refine bX12_mean_33 _ _ _ _ _ _ (zvRd ob_98 (m_many HM) (by decide) ?_)
            rw [zi_le (by omega) (by omega), if_neg (by omega)]
            rw [zsm_s] at ih
            refine zvRd ob_98 (m_atOf HM hL ha (by omega)) (by decide) ?_
            rw [pk_mul, nI_add, nI_1]
            exact ih
      · rw [Bool.not_eq_true] at hz
        refine ⟨-2, fun I A t hC => zQy.mk 6 (by decide) ?_, fun I A t hM => zQy.mk 80 (by decide) ?_⟩
        · refine eX11_mean _ _ _ _ (bX11_mean_0 _ _ _ _ (zvO1 ob_0 (v_orderWith2 hC hs ha) (by decide) (zcRd (v_isBit _) (by decide) ?_)))
          rw [zB_f hz]
          exact zQk.id _ _ _ _
        · refine eX12_mean _ _ _ _ (bX12_mean_0 _ _ _ _ (zvRd ob_98 (m_thing1 hM hs) (by decide) ?_))
          rw [zB_t hy]
          refine zcRd (m_inC (m := 1) _ (by decide) (by decide)) (by decide) ?_
          rw [zB_f hz]
          exact zQk.id _ _ _ _
    · rw [Bool.not_eq_true] at hy
      refine ⟨-2, fun I A t hC => zQy.mk 6 (by decide) ?_, fun I A t hM => zQy.mk 80 (by decide) ?_⟩
      · exact eX11_mean _ _ _ _ (bX11_mean_0 _ _ _ _ (zvO0 ob_0 (v_orderWith1 hC hs hy) (by decide) (zQk.id _ _ _ _)))
      · refine eX12_mean _ _ _ _ (bX12_mean_0 _ _ _ _ (zvRd ob_98 (m_thing1 hM hs) (by decide) ?_))
        rw [zB_f hy]
        exact zQk.id _ _ _ _
  · refine ⟨-2, fun I A t hC => zQy.mk 6 (by decide) ?_, fun I A t hM => zQy.mk 80 (by decide) ?_⟩
    · exact eX11_mean _ _ _ _ (bX11_mean_0 _ _ _ _ (zvO0 ob_0 (v_orderWith0 hC hn) (by decide) (zQk.id _ _ _ _)))
    · refine eX12_mean _ _ _ _ (bX12_mean_0 _ _ _ _ (zvRd ob_98 (m_thing0 hM hn) (by decide) ?_))
      rw [if_pos rfl]
      exact zQk.id _ _ _ _
/-- what balance answers -/
def zbal (n : Nat) (u : Nat → Nat) (b : Nat) : Int32 := if (zbb n u n).1 = -1 then -1 else if b = 0 then (zbb n u n).1 else nI (zBf n u ((zbb n u n).1.toNatClampNeg / 10) ((zbb n u n).1.toNatClampNeg % 10))
theorem m_balL {I A : zF2} {t : zW} {s n R b : Nat} {u : Nat → Nat} {h : Nat → Nat → Nat} (H : zMR A s n u R h) (hL : zLm I A n u) (hb : b < 2) {Q : Option Value → zW → Prop} (hQ : Q (some (.int (zbal n u b))) (zWd I A t)) : zRn X 16 0 0 MX12_balance 34 [some (.ref 98), some (.int (nI s)), some (.int (nI b)), some (.int (-1)), some (.int 0), some (.int 0), none, none] [] (zWd I A t) Q := by
  have h8 := H.2.1.1
  have h28 := z28 h8
  have hp := Nat.one_le_two_pow (n := n)
  have ef : zaI (zWd I A t) 104 (nI (2 ^ n - 1)) = some (nI (zGl n u 0)) := (ar_104.rd (by omega)).trans (by rw [(hL.2 _ (by omega)).1, zFG h8])
  refine zdown (P := fun a => zRn X 16 0 0 MX12_balance 34 [some (.ref 98), some (.int (nI s)), some (.int (nI b)), some (.int (zbb n u a).1), some (.int (zbb n u a).2), some (.int (nI a)), none, none] [] (zWd I A t) Q) (n := n) ?_ (fun a ha ih => ?_) 0 (Nat.zero_le _)
  · refine bX12_balance_34 _ _ _ _ _ _ (zvRd ob_98 (m_many H) (by decide) ?_)
    rw [if_pos (Int32.le_refl _)]
    unfold zbal at hQ
    by_cases c : (zbb n u n).1 = -1
    · rw [if_pos c]
      rw [if_pos c] at hQ
      refine bX12_balance_160 _ ?_
      rw [c]
      exact hQ
    · rw [if_neg c]
      rw [if_neg c] at hQ
      rw [zi_0 (by omega)]
      by_cases c2 : b = 0
      · rw [if_pos c2]
        rw [if_pos c2] at hQ
        exact bX12_balance_160 _ hQ
      · rw [if_neg c2]
        rw [if_neg c2] at hQ
        rcases zbb_g (u := u) n (Nat.le_refl _) with z | ⟨a', b', ha', hb', z⟩
        · exact absurd z c
        · rw [z, nI_clamp (by omega), show (10 * a' + b') / 10 = a' by omega, show (10 * a' + b') % 10 = b' by omega] at hQ
          rw [z]
          show zIs _ _ _ ∧ zCallI X 16 _ [_, _, .int (nI _ / nI 10), .int (nI _ - nI _ / nI 10 * nI 10)] _ _
          rw [pk_rem (by omega) (by decide) (by decide), pk_div (by omega) (by decide) (by decide), show (10 * a' + b') / 10 = a' by omega, show (10 * a' + b') % 10 = b' by omega]
          exact zvRd ob_98 (m_beforeOf H hL ha' hb') (by decide) hQ
  · refine bX12_balance_34 _ _ _ _ _ _ (zvRd ob_98 (m_many H) (by decide) ?_)
    rw [zi_le (by omega) (by omega), if_neg (by omega)]
    rw [zbb_s] at ih
    generalize zbb n u a = p at *
    have inner : ∀ j, j ≤ n - (a + 1) → zRn X 16 0 0 MX12_balance 50 [some (.ref 98), some (.int (nI s)), some (.int (nI b)), some (.int (zbr n u a p j).1), some (.int (zbr n u a p j).2), some (.int (nI a)), some (.int (nI (a + 1 + j))), none] [] (zWd I A t) Q := by
      refine zdown ?_ ?_
      · refine bX12_balance_50 _ _ _ _ _ _ _ (zvRd ob_98 (m_many H) (by decide) ?_)
        rw [zi_le (by omega) (by omega), if_pos (by omega), nI_1]
        exact ih
      · intro j hj ihj
        refine bX12_balance_50 _ _ _ _ _ _ _ (zvRd ob_98 (m_many H) (by decide) ?_)
        rw [zi_le (by omega) (by omega), if_neg (by omega)]
        rw [zbr_s] at ihj
        generalize zbr n u a p j = r at *
        have leave : zRn X 16 0 0 MX12_balance 50 [some (.ref 98), some (.int (nI s)), some (.int (nI b)), some (.int (zbs n u a (a + 1 + j) r).1), some (.int (zbs n u a (a + 1 + j) r).2), some (.int (nI a)), some (.int (nI (a + 1 + j) + 1)), none] [] (zWd I A t) Q := by
          rw [nI_1]
          exact ihj
        unfold zbs at leave
        refine zvRd ob_98 (m_areFree H (by omega) (by omega)) (by decide) ?_
        rw [zB_if]
        by_cases hfe : zfe u a (a + 1 + j) = true
        · rw [if_pos hfe]
          rw [if_pos hfe] at leave
          refine zvRd ob_98 (m_beforeOf H hL ha (by omega)) (by decide) ⟨_, fr_98_14.rd, _, fi_98_16.rd, ?_⟩
          rw [hL.1]
          refine ⟨_, ef, by decide, ?_⟩
          refine bX12_balance_100 _ _ _ _ _ _ _ _ (zvRd ob_98 (m_areFree H (by omega) (by omega)) (by decide) ?_)
          rw [zB_t hfe]
          show if r.1 = -1 then zRn X 16 0 0 MX12_balance 126 [_, _, _, _, _, _, _, some (.int (zof (nI (zBf n u a (a + 1 + j))) (nI (zGl n u 0))))] _ _ _ else (if r.2 ≤ zof (nI (zBf n u a (a + 1 + j))) (nI (zGl n u 0)) then _ else zRn X 16 0 0 MX12_balance 126 [_, _, _, _, _, _, _, some (.int (zof (nI (zBf n u a (a + 1 + j))) (nI (zGl n u 0))))] _ _ _)
          by_cases c1 : r.1 = -1
          · rw [if_pos c1]
            rw [if_pos (Or.inl c1)] at leave
            exact bX12_balance_126 _ _ _ _ _ _ (bX12_balance_139 _ _ _ _ _ _ _ leave)
          · rw [if_neg c1]
            by_cases c2 : r.2 ≤ zof (nI (zBf n u a (a + 1 + j))) (nI (zGl n u 0))
            · rw [if_pos c2]
              rw [if_neg (by rintro (z | z); exact c1 z; exact z c2)] at leave
              exact bX12_balance_139 _ _ _ _ _ _ _ leave
            · rw [if_neg c2]
              rw [if_pos (Or.inr c2)] at leave
              exact bX12_balance_126 _ _ _ _ _ _ (bX12_balance_139 _ _ _ _ _ _ _ leave)
        · rw [if_neg hfe]
          rw [if_neg hfe] at leave
          refine bX12_balance_100 _ _ _ _ _ _ _ _ (zvRd ob_98 (m_areFree H (by omega) (by omega)) (by decide) ?_)
          rw [Bool.not_eq_true] at hfe
          rw [zB_f hfe]
          exact bX12_balance_139 _ _ _ _ _ _ _ leave
    rw [nI_1]
    exact inner 0 (Nat.zero_le _)
theorem q_balance : zSame X MX11_balance MX12_balance [.int x, .int y] S := by
  rcases zslot S x with ⟨s, hs⟩ | hn
  · by_cases hy : zin 2 y = true
    · obtain ⟨b, hb, rfl⟩ := zin_e.mp hy
      refine ⟨zbal (S s).1 (S s).2.1 b, fun I A t hC => zQy.mk 6 (by decide) ?_, fun I A t hM => zQy.mk 16 (by decide) ?_⟩
      · have h0 := hC s hs.1
        have h8 := h0.1.n8
        refine eX11_balance _ _ _ (bX11_balance_0 _ _ _ (zvO1 ob_0 (v_orderIn1 hC hs) (by decide) (zcRd (v_isBit _) (by decide) ?_)))
        rw [zB_t hy]
        refine zvR2 ob_0 (v_linesOf h0.1) (by decide) ?_
        rintro w1 ⟨B, C, rfl, hL⟩
        refine zvRd ob_84 (v_bestBalanced (zBC_or h0.1 B C) hL) (by decide) ?_
        unfold zbal
        by_cases c : (zbb (S s).1 (S s).2.1 (S s).1).1 = -1
        · rw [if_pos c, if_pos c, c]
          exact zQk.of (zKp.bc I A B C)
        · rw [if_neg c, if_neg c, zi_0 (by omega)]
          by_cases c2 : b = 0
          · rw [if_pos c2, if_pos c2]
            exact zQk.of (zKp.bc I A B C)
          · rw [if_neg c2, if_neg c2]
            rcases zbb_g (u := (S s).2.1) (S s).1 (Nat.le_refl _) with z | ⟨a', b', ha', hb', z⟩
            · exact absurd z c
            · rw [z, nI_clamp (by omega), show (10 * a' + b') / 10 = a' by omega, show (10 * a' + b') % 10 = b' by omega]
              refine ⟨_, fr_0_7.rd, ?_⟩
              show zIs _ _ _ ∧ zCallI X 6 _ [_, _, .int (nI _ / nI 10), .int (nI _ - nI _ / nI 10 * nI 10)] _ _
              rw [pk_rem (by omega) (by decide) (by decide), pk_div (by omega) (by decide) (by decide), show (10 * a' + b') / 10 = a' by omega, show (10 * a' + b') % 10 = b' by omega]
              exact zvRd ob_84 (v_withFirstAhead (zBC_or h0.1 B C) hL (by omega) (by omega)) (by decide) (zQk.of (zKp.bc I A B C))
      · have h1 := m_ord1 (X := X) (I := I) (t := t) hM hs
        obtain ⟨s3, rfl, s0⟩ := hs
        have h0 := hM s s3
        refine eX12_balance _ _ _ (bX12_balance_0 _ _ _ (zvRd ob_98 h1 (by decide) ?_))
        rw [if_neg (by decide)]
        refine zcRd (m_inC (m := 1) _ (by decide) (by decide)) (by decide) ?_
        rw [zB_t hy]
        refine zvV ob_98 (m_laysLines h0) (by decide) ?_
        rintro w1 ⟨B, C, rfl, hL⟩
        exact m_balL (zMC_H h0 B C) hL hb (zQk.of (zKp.mc I A _ B C))
    · rw [Bool.not_eq_true] at hy
      refine ⟨-2, fun I A t hC => zQy.mk 6 (by decide) ?_, fun I A t hM => zQy.mk 16 (by decide) ?_⟩
      · refine eX11_balance _ _ _ (bX11_balance_0 _ _ _ (zvO1 ob_0 (v_orderIn1 hC hs) (by decide) (zcRd (v_isBit _) (by decide) ?_)))
        rw [zB_f hy]
        exact zQk.id _ _ _ _
      · refine eX12_balance _ _ _ (bX12_balance_0 _ _ _ (zvRd ob_98 (m_ord1 hM hs) (by decide) ?_))
        rw [if_neg (by decide)]
        refine zcRd (m_inC (m := 1) _ (by decide) (by decide)) (by decide) ?_
        rw [zB_f hy]
        exact zQk.id _ _ _ _
  · refine ⟨-2, fun I A t hC => zQy.mk 6 (by decide) ?_, fun I A t hM => zQy.mk 16 (by decide) ?_⟩
    · exact eX11_balance _ _ _ (bX11_balance_0 _ _ _ (zvO0 ob_0 (v_orderIn0 hC hn) (by decide) (zQk.id _ _ _ _)))
    · refine eX12_balance _ _ _ (bX12_balance_0 _ _ _ (zvRd ob_98 (m_ord0 hM hn) (by decide) ?_))
      rw [if_pos rfl]
      exact zQk.id _ _ _ _
end ZQ3
