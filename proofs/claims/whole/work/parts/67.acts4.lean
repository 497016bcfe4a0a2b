/-! ===== cuts, adds ===== -/
/-- slot s becomes y: an act only where it was otherwise -/
noncomputable def zPd (st : zSt) (s : Nat) (y : zSl) : zSt := @ite _ (st.1 s = y) (Classical.propDecidable _) st (zPu st s y)
theorem zPd_y {st : zSt} {s : Nat} {y : zSl} (h : st.1 s = y) : zPd st s y = st := by
  unfold zPd
  rw [if_pos h]
theorem zPd_n {st : zSt} {s : Nat} {y : zSl} (h : st.1 s ≠ y) : zPd st s y = zPu st s y := by
  unfold zPd
  rw [if_neg h]
section ZB1
variable {X : zX} {I A I1 A1 : zF2} {t : zW} {st : zSt} {s : Nat} {y : zSl} {d : Nat}
/-- become, in a class's call -/
theorem zvB {M : zM} (hC : zCI st I A) (hK : zHiE I A I1 A1) (hC1 : zCI st I1 A1) (hy : zCS I1 A1 17 y) (hv : zVl y) (hs : s < 3) (hd : 5 < d) {K : zW → Prop} (k : ∀ I2 A2, zCS I2 A2 17 y → zCI (zPd st s y) I2 A2 → zPM I A I2 A2 → K (zWd I2 A2 t)) : zIs (zWd I1 A1 t) 0 10 ∧ zCallV X d MX11_become [.ref 0, .int (nI s)] (zWd I1 A1 t) K := by
  refine zvV ob_0 (v_become hC1 hy hv hs) hd ?_
  rintro w ⟨I2, A2, rfl, k1, k2, k3⟩
  refine k I2 A2 k1 ?_ (hK.pm.trans k2.pm)
  rcases k3 with ⟨e, k3⟩ | ⟨e, k3⟩
  · rw [zPd_y e]
    exact k3
  · rw [zPd_n e]
    exact k3
/-- keeps, at the end of the model's call -/
theorem zvK (hv : ∀ s, s < 3 → zVl (st.1 s)) (hy : zVl y) (hX : zMX st.2.1 st.2.2.1 st.2.2.2.1 st.2.2.2.2.1 st.2.2.2.2.2 I1 A1) (hW : ∀ k, k < 174 → A1 100 k = nI (zEs st.1 k)) (hG : zSg A1 (zEs (va_up st.1 s y))) (hL : zLoE I A I1 A1) (v : Int32) (hd : 0 < d) : zIs (zWd I1 A1 t) 98 11 ∧ zCallI X d MX12_keeps [.ref 98, .int v] (zWd I1 A1 t) (fun x w => zQb_ (zPu st s y) I A t v (some (.int x)) w) := by
  refine zvI1 ob_98 (m_keeps hX hv hW v) hd ?_
  rintro w ⟨c, K, rfl, hK⟩
  refine ⟨rfl, _, _, rfl, ⟨fun k hk => ?_, zup_valid hv hy, hK⟩, ((hL.a (p := 101) (by decide)).f (p := 98) (by decide)).pc⟩
  rw [zup_ne (by decide)]
  exact hG k hk
/-- done, at the end of the model's call -/
theorem zvD (hs : s < 3) (hv : ∀ s, s < 3 → zVl (st.1 s)) (hy : zVl y) (hX : zMX st.2.1 st.2.2.1 st.2.2.2.1 st.2.2.2.2.1 st.2.2.2.2.2 I1 A1) (hW : ∀ k, k < 174 → A1 100 k = nI (zEs st.1 k)) (hG : zSg A1 (zEs (va_up st.1 s y))) (hL : zLoE I A I1 A1) (v : Int32) (hd : 1 < d) : zIs (zWd I1 A1 t) 98 11 ∧ zCallI X d MX12_done [.ref 98, .int v] (zWd I1 A1 t) (fun x w => zQb_ (zPd st s y) I A t v (some (.int x)) w) := by
  refine zvI1 ob_98 (m_done hX hv (zup_valid hv hy) hW hG v) hd ?_
  rintro w (⟨e, rfl⟩ | ⟨e, c, K, rfl, hK⟩)
  · have e := (zup_same hs).mp e
    rw [zPd_y e]
    refine ⟨rfl, _, _, rfl, ⟨fun k hk => ?_, hv, hX⟩, hL.pc⟩
    have : va_up st.1 s y = st.1 := by
      rw [← e, zup_self]
    rw [this] at hG
    exact hG k hk
  · have e := fun z => e ((zup_same hs).mpr z)
    rw [zPd_n e]
    refine ⟨rfl, _, _, rfl, ⟨fun k hk => ?_, zup_valid hv hy, hK⟩, ((hL.a (p := 101) (by decide)).f (p := 98) (by decide)).pc⟩
    rw [zup_ne (by decide)]
    exact hG k hk
/-- the model's new state, read -/
theorem zMR_new (hs : s < 3) (hv : ∀ s, s < 3 → zVl (st.1 s)) (hy : zVl y) (hX : zMX st.2.1 st.2.2.1 st.2.2.2.1 st.2.2.2.2.1 st.2.2.2.2.2 I1 A1) (hG : zSg A1 (zEs (va_up st.1 s y))) : zMR A1 s y.1 y.2.1 y.2.2.1 y.2.2.2 := by
  have h : zMIv (va_up st.1 s y, st.2) I1 A1 := ⟨hG, zup_valid hv hy, hX⟩
  have h2 : zMR A1 s (va_up st.1 s y s).1 (va_up st.1 s y s).2.1 (va_up st.1 s y s).2.2.1 (va_up st.1 s y s).2.2.2 := h.m3 s hs
  rw [zup_eq] at h2
  exact h2
theorem zEn_u {x : zSl} {b : Nat} (hb : b < 8) : zEn x (1 + b) = x.2.1 b := by
  unfold zEn
  rw [if_neg (by omega), if_pos (by omega), show 1 + b - 1 = b by omega]
theorem zEn_h {x : zSl} {r i : Nat} (hi : i < 8) : zEn x (10 + 8 * r + i) = x.2.2.2 r i := by
  unfold zEn
  rw [if_neg (by omega), if_neg (by omega), if_neg (by omega), show (10 + 8 * r + i - 10) / 8 = r by omega, show (10 + 8 * r + i - 10) % 8 = i by omega]
/-- which cell of a slot k is -/
theorem zcell {k : Nat} (hk : k < 58) {P : Nat → Prop} (h0 : P 0) (h1 : ∀ b, b < 8 → P (1 + b)) (h9 : P 9) (hr : ∀ r i, r < 6 → i < 8 → P (10 + 8 * r + i)) : P k := by
  by_cases k0 : k = 0
  · rw [k0]
    exact h0
  · by_cases k9 : k < 9
    · have := h1 (k - 1) (by omega)
      rw [show 1 + (k - 1) = k by omega] at this
      exact this
    · by_cases e9 : k = 9
      · rw [e9]
        exact h9
      · have := hr ((k - 10) / 8) ((k - 10) % 8) (by omega) (by omega)
        rw [show 10 + 8 * ((k - 10) / 8) + (k - 10) % 8 = k by omega] at this
        exact this
end ZB1
section ZB2
variable {X : zX} {st : zSt} {x y z : Int32}
theorem a_cuts : zAc X MX11_cuts MX12_cuts [.int x, .int y, .int z] st := by
  rcases zslot st.1 x with ⟨s, hs⟩ | hn
  · by_cases hy : zin (st.1 s).1 y = true
    · obtain ⟨a, ha, rfl⟩ := zin_e.mp hy
      by_cases hz : zin (st.1 s).1 z = true
      · obtain ⟨b, hb, rfl⟩ := zin_e.mp hz
        cases hc : zcv (st.1 s).1 (st.1 s).2.1 a b
        · refine zAc.mk (-6) st 6 6 (by decide) (by decide) (fun I A t hC => ?_) (fun I A t hM => ?_)
          · have h0 := hC.ns hs.1
            have h8 := h0.1.n8
            have h28 := z28 h8
            have lc := zcb_lt (st.1 s).1 (st.1 s).2.1 b
            refine eX11_cuts _ _ _ _ (bX11_cuts_0 _ _ _ _ (zvO1 ob_0 (v_orderWith2 hC.1 hs ha) (by decide) (zvRd h0.1.1.ob (v_hasN h0.1 (by omega)) (by decide) ?_)))
            rw [zB_ifP, if_pos hb]
            refine zvRd h0.1.1.ob (v_coveredBy h0.1 (by omega)) (by decide) ?_
            rw [zi_no (by omega) (by omega), zcb_bit h0.1.2.1, hc, if_neg (by decide)]
            exact zQa.id hC
          · have h1 := m_thing1 (X := X) (I := I) (t := t) (y := nI a) hM.m3 hs
            have h2 := m_thing1 (X := X) (I := I) (t := t) (y := nI b) hM.m3 hs
            obtain ⟨s3, rfl, s0⟩ := hs
            have H : zMR A s (st.1 s).1 (st.1 s).2.1 (st.1 s).2.2.1 (st.1 s).2.2.2 := hM.m3 s s3
            have h8 := H.2.1.1
            refine eX12_cuts _ _ _ _ (bX12_cuts_0 _ _ _ _ (zvRd ob_98 h1 (by decide) ?_))
            rw [zB_t hy]
            refine zvRd ob_98 h2 (by decide) ?_
            rw [zB_t hz]
            refine zvRd ob_98 (m_isCover H (by omega) (by omega)) (by decide) ?_
            rw [zB_f hc]
            exact zQb_.id hM
        · generalize hyy : (((st.1 s).1, zun (st.1 s).2.1 a b, (st.1 s).2.2) : zSl) = yy
          have hne : st.1 s ≠ yy := fun e => by
            rw [← hyy] at e
            have e2 : (st.1 s).2.1 = zun (st.1 s).2.1 a b := congrArg (fun z : zSl => z.2.1) e
            have h1 : zlt (st.1 s).2.1 a b = true := by
              unfold zcv at hc
              rw [Bool.and_eq_true] at hc
              exact hc.1
            rw [e2] at h1
            exact ((zun_lt _ a b a b).mp h1).2 ⟨rfl, rfl⟩
          refine zAc.mk (nI (ztw (st.1 s).1 (zun (st.1 s).2.1 a b))) (zPu st s yy) 6 6 (by decide) (by decide) (fun I A t hC => ?_) (fun I A t hM => ?_)
          · have h0 := hC.ns hs.1
            have hv := hC.2.1 s hs.1
            have h8 := h0.1.n8
            have h28 := z28 h8
            have lc := zcb_lt (st.1 s).1 (st.1 s).2.1 b
            have hvy : zVl yy := by
              rw [← hyy]
              exact ⟨zun_po hv.1 hc, hv.2.1, hv.2.2⟩
            refine eX11_cuts _ _ _ _ (bX11_cuts_0 _ _ _ _ (zvO1 ob_0 (v_orderWith2 hC.1 hs ha) (by decide) (zvRd h0.1.1.ob (v_hasN h0.1 (by omega)) (by decide) ?_)))
            rw [zB_ifP, if_pos hb]
            refine zvRd h0.1.1.ob (v_coveredBy h0.1 (by omega)) (by decide) ?_
            rw [zi_no (by omega) (by omega), zcb_bit h0.1.2.1, hc, if_pos rfl]
            refine ⟨_, fr_0_1.rd, zvV q17.ob (v_copyFrom q17 (by have := hs.1; omega) h0) (by decide) ?_⟩
            rintro w1 ⟨I1, A1, rfl, g1, g2⟩
            refine ⟨_, fr_0_1.rd, zvV q17.ob (v_unlink g1 hc) (by decide) ?_⟩
            rintro w2 ⟨I2, A2, rfl, g3, g4⟩
            rw [hyy] at g3
            have g5 := g2.trans g4
            have hx := hs.2.1
            rw [hx]
            refine zvB (M := MX11_cuts) hC (g5.hi q17) (g5.kp.ci hC) g3 hvy hs.1 (by decide) (fun I3 A3 k1 k2 k3 => ?_)
            rw [zPd_n hne] at k2
            have htw : zRd X 1 MX5_twos [.ref 17] (zWd I3 A3 t) (nI (ztw (st.1 s).1 (zun (st.1 s).2.1 a b))) := by
              have := v_twos (X := X) (t := t) k1.1
              rw [← hyy] at this
              exact this
            exact ⟨_, fr_0_1.rd, zvRd q17.ob htw (by decide) ⟨rfl, I3, A3, rfl, k2, k3⟩⟩
          · have h1 := m_thing1 (X := X) (I := I) (t := t) (y := nI a) hM.m3 hs
            have h2 := m_thing1 (X := X) (I := I) (t := t) (y := nI b) hM.m3 hs
            obtain ⟨s3, rfl, s0⟩ := hs
            have H : zMR A s (st.1 s).1 (st.1 s).2.1 (st.1 s).2.2.1 (st.1 s).2.2.2 := hM.m3 s s3
            have hv := hM.2.1 s s3
            have h8 := H.2.1.1
            have hvy : zVl yy := by
              rw [← hyy]
              exact ⟨zun_po hv.1 hc, hv.2.1, hv.2.2⟩
            refine eX12_cuts _ _ _ _ (bX12_cuts_0 _ _ _ _ (zvRd ob_98 h1 (by decide) ?_))
            rw [zB_t hy]
            refine zvRd ob_98 h2 (by decide) ?_
            rw [zB_t hz]
            refine zvRd ob_98 (m_isCover H (by omega) (by omega)) (by decide) ?_
            rw [zB_t hc]
            refine zvV ob_98 m_remembers (by decide) ?_
            rintro w1 ⟨W, rfl, hW⟩
            have H1 := H.up (p := 100) (f := W) (by decide)
            refine zvRd ob_98 (m_under H1 (by omega)) (by decide) ?_
            have e1 : (1 : Int32) + nI b = nI (1 + b) := by
              show nI 1 + nI b = _
              rw [nI_add]
            rw [zb_1 a (by omega), zb_df, e1]
            refine zvV ob_98 (m_lays s3 (k := 1 + b) (by omega) _) (by decide) ?_
            rintro w2 rfl
            rw [zup_ne (show (99 : Nat) ≠ 100 by decide)]
            have hX : zMX st.2.1 st.2.2.1 st.2.2.2.1 st.2.2.2.2.1 st.2.2.2.2.2 I (va_up (va_up A 100 W) 99 (upd (A 99) (58 * s + (1 + b)) (nI (zdf ((st.1 s).2.1 b) (2 ^ a))))) := hM.2.2.same (fun p hp => by rw [zup_ne (by omega), zup_ne (by omega)]) (fun _ _ => rfl)
            have hsg : zSg (va_up (va_up A 100 W) 99 (upd (A 99) (58 * s + (1 + b)) (nI (zdf ((st.1 s).2.1 b) (2 ^ a))))) (zEs (va_up st.1 s yy)) := zSg_put (A := A) hM.1 (fun k hk => by
              rw [zup_eq]
              by_cases e : k = 1 + b
              · rw [e, upd_eq, zEn_u (by omega), ← hyy]
                show _ = nI (zun (st.1 s).2.1 a b b)
                unfold zun
                rw [zup_eq]
              · rw [upd_ne _ _ (by omega), zenc hM s3 hk, ← hyy]
                congr 1
                revert e
                refine zcell hk (P := fun k => k ≠ 1 + b → zEn (st.1 s) k = zEn ((st.1 s).1, zun (st.1 s).2.1 a b, (st.1 s).2.2) k) (fun _ => rfl) (fun c hc8 e => ?_) (fun _ => rfl) (fun r i _ hi _ => ?_)
                · rw [zEn_u hc8, zEn_u hc8]
                  show _ = zun (st.1 s).2.1 a b c
                  unfold zun
                  rw [zup_ne (by omega)]
                · rw [zEn_h hi, zEn_h hi]) (fun j hj => by
              rw [zup_eq, upd_ne _ _ (by omega)])
            have HN := zMR_new s3 hM.2.1 hvy hX hsg
            have hbm : zRd X 2 MX12_belowMany [.ref 98, .int (nI s)] (zWd I (va_up (va_up A 100 W) 99 (upd (A 99) (58 * s + (1 + b)) (nI (zdf ((st.1 s).2.1 b) (2 ^ a))))) t) (nI (ztw (st.1 s).1 (zun (st.1 s).2.1 a b))) := by
              have := m_belowMany (X := X) (I := I) (t := t) HN
              rw [← hyy] at this
              exact this
            refine zvRd ob_98 hbm (by decide) (zvK hM.2.1 hvy hX (fun k hk => ?_) hsg (((zLoE.refl I A).a (p := 100) (by decide)).a (p := 99) (by decide)) _ (by decide))
            rw [zup_ne (by decide), zup_eq, hW k hk, hM.1 k hk]
      · rw [Bool.not_eq_true] at hz
        refine zAc.mk (-2) st 6 6 (by decide) (by decide) (fun I A t hC => ?_) (fun I A t hM => ?_)
        · have h0 := hC.ns hs.1
          have h8 := h0.1.n8
          refine eX11_cuts _ _ _ _ (bX11_cuts_0 _ _ _ _ (zvO1 ob_0 (v_orderWith2 hC.1 hs ha) (by decide) (zvRd h0.1.1.ob (v_has h0.1 z) (by decide) ?_)))
          rw [zin_h (by omega), zB_f hz]
          exact zQa.id hC
        · refine eX12_cuts _ _ _ _ (bX12_cuts_0 _ _ _ _ (zvRd ob_98 (m_thing1 hM.m3 hs) (by decide) ?_))
          rw [zB_t hy]
          refine zvRd ob_98 (m_thing1 hM.m3 hs) (by decide) ?_
          rw [zB_f hz]
          exact zQb_.id hM
    · rw [Bool.not_eq_true] at hy
      refine zAc.mk (-2) st 6 6 (by decide) (by decide) (fun I A t hC => ?_) (fun I A t hM => ?_)
      · exact eX11_cuts _ _ _ _ (bX11_cuts_0 _ _ _ _ (zvO0 ob_0 (v_orderWith1 hC.1 hs hy) (by decide) (zQa.id hC)))
      · refine eX12_cuts _ _ _ _ (bX12_cuts_0 _ _ _ _ (zvRd ob_98 (m_thing1 hM.m3 hs) (by decide) ?_))
        rw [zB_f hy]
        exact zQb_.id hM
  · refine zAc.mk (-2) st 6 6 (by decide) (by decide) (fun I A t hC => ?_) (fun I A t hM => ?_)
    · exact eX11_cuts _ _ _ _ (bX11_cuts_0 _ _ _ _ (zvO0 ob_0 (v_orderWith0 hC.1 hn) (by decide) (zQa.id hC)))
    · refine eX12_cuts _ _ _ _ (bX12_cuts_0 _ _ _ _ (zvRd ob_98 (m_thing0 hM.m3 hn) (by decide) ?_))
      rw [if_pos rfl]
      exact zQb_.id hM
theorem zLi_inj {n : Nat} {u : Nat → Nat} (h : zPo n u) {k : Nat} (hk : k < zGl n u 0) : ∀ i j, i < n → j < n → zLi n u k i = zLi n u k j → i = j := by
  have inn : ∀ j i, i < j → (zLst n u k j).1.testBit (zLi n u k i) = true := by
    intro j
    induction j with
    | zero => exact fun i hi => absurd hi (Nat.not_lt_zero _)
    | succ j ih =>
      intro i hi
      rw [zLst_s]
      show ((zLst n u k j).1 ||| 2 ^ zLi n u k j).testBit (zLi n u k i) = true
      rw [Nat.testBit_or, Nat.testBit_two_pow]
      rcases Nat.lt_or_ge i j with q | q
      · rw [ih i q]
        rfl
      · have : i = j := by omega
        subst this
        simp
  have key : ∀ i j, i < j → j < n → zLi n u k i ≠ zLi n u k j := fun i j hij hj e => by
    have h1 := (zcf_s (zLi_ok h hk hj).2.1).2.1
    rw [← e, inn j i hij] at h1
    cases h1
  intro i j hi hj e
  rcases Nat.lt_trichotomy i j with q | q | q
  · exact absurd e (key i j q hj)
  · exact q
  · exact absurd e.symm (key j i q hi)
/-- one row more -/
def zAd (x : zSl) (f : Nat → Nat) : zSl := (x.1, x.2.1, x.2.2.1 + 1, va_up x.2.2.2 x.2.2.1 (fun i => if i < x.1 then f i else 0))
theorem zVl_Ad {x : zSl} {f : Nat → Nat} (hx : zVl x) (h0 : 0 < x.1) (hR : x.2.2.1 < 6) (f1 : ∀ i, i < x.1 → f i < x.1) (f2 : ∀ i j, i < x.1 → j < x.1 → f i = f j → i = j) : zVl (zAd x f) := by
  obtain ⟨h1, ⟨a1, a2, a3, a4⟩, h3⟩ := hx
  refine ⟨h1, ⟨by show x.2.2.1 + 1 ≤ 6; omega, fun r i hr hi => ?_, fun r i j hr hi hj => ?_, fun r i hri => ?_⟩, fun z => by have z : x.1 = 0 := z; omega⟩
  · have hr : r < x.2.2.1 + 1 := hr
    have hi : i < x.1 := hi
    show va_up x.2.2.2 x.2.2.1 (fun i => if i < x.1 then f i else 0) r i < x.1
    by_cases e : r = x.2.2.1
    · rw [e, zup_eq, if_pos hi]
      exact f1 i hi
    · rw [zup_ne e]
      exact a2 r i (by omega) hi
  · have hr : r < x.2.2.1 + 1 := hr
    have hi : i < x.1 := hi
    have hj : j < x.1 := hj
    show va_up x.2.2.2 x.2.2.1 (fun i => if i < x.1 then f i else 0) r i = va_up x.2.2.2 x.2.2.1 (fun i => if i < x.1 then f i else 0) r j → i = j
    by_cases e : r = x.2.2.1
    · rw [e, zup_eq, if_pos hi, if_pos hj]
      exact f2 i j hi hj
    · rw [zup_ne e]
      exact a3 r i j (by omega) hi hj
  · have hri : x.2.2.1 + 1 ≤ r ∨ x.1 ≤ i := hri
    show va_up x.2.2.2 x.2.2.1 (fun i => if i < x.1 then f i else 0) r i = 0
    by_cases e : r = x.2.2.1
    · rw [e, zup_eq, if_neg (by omega)]
    · rw [zup_ne e]
      exact a4 r i (by omega)
theorem v_open {I A : zF2} {t : zW} {q R : Nat} (hq : zOq q) (hI : I (q + 3) 1 = nI R) (hR : R < 6) : zEv X 0 0 0 MX8_open [.ref (q + 3)] (zWd I A t) (fun v w1 => v = some (.int (nI R)) ∧ w1 = zWd (va_up I (q + 3) (upd (I (q + 3)) 1 (nI (R + 1)))) A t) := by
  refine eX8_open _ (bX8_open_0 _ ⟨_, hq.rsz.rd, ?_⟩)
  rw [hI]
  show if nI 6 ≤ nI R then _ else _
  rw [zi_le (by decide) (by omega), if_neg (by omega)]
  refine ⟨_, hq.rsz.rd, _, hq.rsz.wr, bX8_open_19 _ ⟨_, hq.rsz.rd, ?_⟩⟩
  rw [hI, nI_1, zup_eq, upd_eq]
  refine ⟨?_, rfl⟩
  rw [nI_p (by omega)]
  rfl
theorem a_adds : zAc X MX11_adds MX12_adds [.int x, .int y] st := by
  rcases zslot st.1 x with ⟨s, hs⟩ | hn
  · by_cases hy : 0 ≤ y
    · obtain ⟨k, hk, rfl⟩ := nI_of (Int32.not_lt.mpr hy)
      by_cases hkl : k < zGl (st.1 s).1 (st.1 s).2.1 0
      · by_cases hR : (st.1 s).2.2.1 < 6
        · generalize hyy : zAd (st.1 s) (zLi (st.1 s).1 (st.1 s).2.1 k) = yy
          have hne : st.1 s ≠ yy := fun e => by
            have e2 : (st.1 s).2.2.1 = (zAd (st.1 s) (zLi (st.1 s).1 (st.1 s).2.1 k)).2.2.1 := by
              rw [hyy]
              exact congrArg (fun z : zSl => z.2.2.1) e
            have e2 : (st.1 s).2.2.1 = (st.1 s).2.2.1 + 1 := e2
            omega
          refine zAc.mk (nI ((st.1 s).2.2.1 + 1)) (zPu st s yy) 6 6 (by decide) (by decide) (fun I A t hC => ?_) (fun I A t hM => ?_)
          · have h0 := hC.ns hs.1
            have hv := hC.2.1 s hs.1
            have h8 := h0.1.n8
            have h28 := z28 h8
            have hvy : zVl yy := by
              rw [← hyy]
              exact zVl_Ad hv hs.2.2 hR (fun i hi => (zLi_ok hv.1 hkl hi).1) (zLi_inj hv.1 hkl)
            have gl31 := zGl_31 (u := (st.1 s).2.1) h8 (Nat.two_pow_pos (st.1 s).1)
            refine eX11_adds _ _ _ (bX11_adds_0 _ _ _ (zvO1 ob_0 (v_orderIn1 hC.1 hs) (by decide) ?_))
            rw [if_pos hy]
            refine zvR2 ob_0 (v_linesOf h0.1) (by decide) ?_
            rintro w1 ⟨B, C, rfl, hL⟩
            have hkb := zKp.bc I A B C
            have hC0 := hkb.ci hC
            have h1 := hC0.ns hs.1
            have hsz := v_rsize (X := X) (I := I) (A := zBC A B C) (t := t) h1.1.1
            rw [h1.2.2.1] at hsz
            refine zvRd ob_84 (v_total hv.1 hL) (by decide) ?_
            rw [zi_lt (by omega) (by omega), if_pos hkl]
            refine zvRf h1.1.1.ob (v_rowsOf h1.1.1) (by decide) (zvRd h1.1.1.rob hsz (by decide) ?_)
            show if nI _ < nI 6 then _ else _
            rw [zi_lt (by omega) (by decide), if_pos hR]
            refine ⟨_, fr_0_1.rd, zvV q17.ob (v_copyFrom q17 (by have := hs.1; omega) h1) (by decide) ?_⟩
            rintro w2 ⟨I1, A1, rfl, g1, g2⟩
            refine ⟨_, fr_0_1.rd, zvRf q17.ob (v_rowsOf q17) (by decide) (zvI1 q17.rob (v_open q17 g1.2.2.1 hR) (by decide) ?_)⟩
            rintro w3 rfl
            have hhi : zHiE I A I (zBC A B C) := ((zHiE.refl I A).a (p := 85) (by decide)).a (p := 86) (by decide)
            have key : ∀ j, j ≤ (st.1 s).1 → ∀ D : Nat → Int32, (∀ r i, r < (st.1 s).2.2.1 → i < (st.1 s).1 → D (8 * r + i) = nI ((st.1 s).2.2.2 r i)) → (∀ i, i < j → D (8 * (st.1 s).2.2.1 + i) = nI (zLi (st.1 s).1 (st.1 s).2.1 k i)) → zRn X 6 0 0 MX11_adds 69 [some (.ref 0), some (.int x), some (.int (nI k)), some (.ref (2 + 5 * s)), some (.int (nI (st.1 s).2.2.1)), some (.int (nI j))] [] (zWd (va_up I1 (17 + 3) (upd (I1 (17 + 3)) 1 (nI ((st.1 s).2.2.1 + 1)))) (va_up A1 (17 + 4) D) t) (zQa (zPu st s yy) I A t (nI ((st.1 s).2.2.1 + 1))) := by
              have g3 : ∀ D, zOn 17 I (zBC A B C) (va_up I1 (17 + 3) (upd (I1 (17 + 3)) 1 (nI ((st.1 s).2.2.1 + 1)))) (va_up A1 (17 + 4) D) := fun D => (g2.f (p := 17 + 3) (by omega)).a (p := 17 + 4) (by omega)
              have lN : ∀ D, zLn (va_up A1 (17 + 4) D) (st.1 s).1 (st.1 s).2.1 := fun D m hm => by
                rw [(g3 D 85 (by decide)).1, (g3 D 86 (by decide)).1]
                exact hL m hm
              refine zdown ?_ ?_
              · intro D d1 d2
                have hC1 := (g3 D).kp.ci hC0
                have h2 := hC1.ns hs.1
                refine bX11_adds_69 _ _ _ _ _ _ (zvRd h2.1.1.ob (v_size h2.1) (by decide) ?_)
                rw [if_pos (Int32.le_refl _)]
                have hN : zCS (va_up I1 (17 + 3) (upd (I1 (17 + 3)) 1 (nI ((st.1 s).2.2.1 + 1)))) (va_up A1 (17 + 4) D) 17 yy := by
                  have hvv := hvy
                  rw [← hyy] at hvv ⊢
                  refine zCS_rows g1 hvv.2.1 rfl (fun r i hr hi => ?_)
                  have hr : r < (st.1 s).2.2.1 + 1 := hr
                  show _ = nI (va_up (st.1 s).2.2.2 (st.1 s).2.2.1 (fun i => if i < (st.1 s).1 then zLi (st.1 s).1 (st.1 s).2.1 k i else 0) r i)
                  by_cases e : r = (st.1 s).2.2.1
                  · rw [e, zup_eq, if_pos hi]
                    exact d2 i hi
                  · rw [zup_ne e]
                    exact d1 r i (by omega) hi
                have hx := hs.2.1
                rw [hx]
                refine zvB (M := MX11_adds) hC (hhi.trans ((g3 D).hi q17)) hC1 hN hvy hs.1 (by decide) (fun I3 A3 k1 k2 k3 => ?_)
                rw [zPd_n hne] at k2
                have hsz := v_rsize (X := X) (I := I3) (A := A3) (t := t) q17
                rw [k1.2.2.1, ← hyy] at hsz
                exact ⟨_, fr_0_1.rd, zvRf q17.ob (v_rowsOf q17) (by decide) (zvRd q17.rob hsz (by decide) ⟨rfl, I3, A3, rfl, k2, k3⟩)⟩
              · intro j hj ih D d1 d2
                have hC1 := (g3 D).kp.ci hC0
                have h2 := hC1.ns hs.1
                refine bX11_adds_69 _ _ _ _ _ _ (zvRd h2.1.1.ob (v_size h2.1) (by decide) ?_)
                rw [zi_le (by omega) (by omega), if_neg (by omega)]
                have hla := v_lineAt (X := X) (t := t) h2.1 (lN D) (k := k) (p := j) hk hj
                rw [if_pos hkl] at hla
                refine ⟨_, fr_0_1.rd, zvRf q17.ob (v_rowsOf q17) (by decide) ⟨_, fr_0_7.rd, zvRd ob_84 hla (by decide) (zvV q17.rob (v_rput q17 (by omega) (by omega) _) (by decide) ?_)⟩⟩
                rintro w4 rfl
                rw [zup_eq, bx_uu, nI_1]
                refine ih _ (fun r i hr hi => ?_) (fun i hi => ?_)
                · rw [upd_ne _ _ (by omega)]
                  exact d1 r i hr hi
                · by_cases e : i = j
                  · rw [e, upd_eq]
                  · rw [upd_ne _ _ (by omega)]
                    exact d2 i (by omega)
            have k0 := key 0 (Nat.zero_le _) (A1 (17 + 4)) (fun r i hr hi => g1.2.2.2 r i hr hi) (fun i hi => absurd hi (Nat.not_lt_zero _))
            rw [zup_self] at k0
            exact k0
          · have h1 := m_ord1 (X := X) (I := I) (t := t) hM.m3 hs
            obtain ⟨s3, rfl, s0⟩ := hs
            have H : zMR A s (st.1 s).1 (st.1 s).2.1 (st.1 s).2.2.1 (st.1 s).2.2.2 := hM.m3 s s3
            have hv := hM.2.1 s s3
            have h8 := H.2.1.1
            have hvy : zVl yy := by
              rw [← hyy]
              exact zVl_Ad hv s0 hR (fun i hi => (zLi_ok hv.1 hkl hi).1) (zLi_inj hv.1 hkl)
            refine eX12_adds _ _ _ (bX12_adds_0 _ _ _ (zvRd ob_98 h1 (by decide) ?_))
            rw [if_neg (by decide), if_pos hy]
            refine zvI1 ob_98 (m_laysLine H hk) (by decide) ?_
            rintro w1 ⟨B, C, Dm, rfl, hDm⟩
            have hDm := hDm hkl
            rw [zB_ifP, if_pos hkl]
            generalize hI1 : zIf I 16 (nI (2 ^ (st.1 s).1 - 1)) = I1
            generalize hA1 : va_up (zMC A B C) 106 Dm = A1
            have hk1 : zKp I A I1 A1 := by
              rw [← hI1, ← hA1]
              exact (zKp.mc I A _ B C).a (p := 106) (by decide)
            have hlo : zLoE I A I1 A1 := by
              rw [← hI1, ← hA1]
              exact ((((zLoE.refl I A).a (p := 104) (by decide)).a (p := 105) (by decide)).a (p := 106) (by decide)).f (p := 98) (by decide)
            have hM1 := hk1.mi hM
            have H1 : zMR A1 s (st.1 s).1 (st.1 s).2.1 (st.1 s).2.2.1 (st.1 s).2.2.2 := hM1.m3 s s3
            have made : ∀ i, i < (st.1 s).1 → A1 106 i = nI (zLi (st.1 s).1 (st.1 s).2.1 k i) := fun i hi => by
              rw [← hA1, zup_eq]
              exact hDm i hi
            refine zvRd ob_98 (m_rows H1) (by decide) ?_
            show if nI _ = nI 6 then _ else _
            rw [zi_eq (by omega) (by decide), if_neg (by omega)]
            refine zvV ob_98 m_remembers (by decide) ?_
            rintro w2 ⟨W, rfl, hW⟩
            have key : ∀ j, j ≤ (st.1 s).1 → ∀ D : Nat → Int32, (∀ i, i < j → D (58 * s + 10 + 8 * (st.1 s).2.2.1 + i) = nI (zLi (st.1 s).1 (st.1 s).2.1 k i)) → (∀ m, (m < 58 * s + 10 + 8 * (st.1 s).2.2.1 ∨ 58 * s + 10 + 8 * (st.1 s).2.2.1 + j ≤ m) → D m = A1 99 m) → zRn X 6 0 0 MX12_adds 45 [some (.ref 98), some (.int (nI s)), none, some (.int (nI j))] [] (zWd I1 (va_up (va_up A1 100 W) 99 D) t) (zQb_ (zPu st s yy) I A t (nI ((st.1 s).2.2.1 + 1))) := by
              refine zdown ?_ ?_
              · intro D d1 d2
                have r0 : va_up (va_up A1 100 W) 99 D 99 (58 * s) = nI (st.1 s).1 := by rw [zup_eq, d2 _ (by omega), H1.2.2.2.1]
                have r9 : va_up (va_up A1 100 W) 99 D 99 (58 * s + 9) = nI (st.1 s).2.2.1 := by rw [zup_eq, d2 _ (by omega), H1.2.2.2.2.2.1]
                refine bX12_adds_45 _ _ _ (zvRd ob_98 (r_many s3 r0) (by decide) ?_)
                rw [if_pos (Int32.le_refl _)]
                refine zvRd ob_98 (r_rows s3 r9) (by decide) ?_
                rw [nI_1]
                refine zvV ob_98 (m_lays s3 (k := 9) (by decide) _) (by decide) ?_
                rintro w3 rfl
                rw [zup_eq, bx_uu]
                have r92 : va_up (va_up A1 100 W) 99 (upd D (58 * s + 9) (nI ((st.1 s).2.2.1 + 1))) 99 (58 * s + 9) = nI ((st.1 s).2.2.1 + 1) := by rw [zup_eq, upd_eq]
                refine zvRd ob_98 (r_rows s3 r92) (by decide) (zvK hM.2.1 hvy (hM1.2.2.same (fun p hp => by rw [zup_ne (by omega), zup_ne (by omega)]) (fun _ _ => rfl)) (fun m hm => ?_) (zSg_put (A := A) hM.1 (fun m hm => ?_) (fun m hm => ?_)) ((hlo.a (p := 100) (by decide)).a (p := 99) (by decide)) _ (by decide))
                · rw [zup_ne (by decide), zup_eq, hW m hm, hM1.1 m hm]
                · rw [zup_eq]
                  refine zcell hm (P := fun m => upd D (58 * s + 9) (nI ((st.1 s).2.2.1 + 1)) (58 * s + m) = nI (zEn yy m)) ?_ (fun b hb => ?_) ?_ (fun r i hr hi => ?_)
                  · rw [upd_ne _ _ (by omega), d2 _ (by omega), zenc hM1 s3 (by decide), ← hyy]
                    rfl
                  · rw [upd_ne _ _ (by omega), d2 _ (by omega), zenc hM1 s3 (by omega), zEn_u hb, zEn_u hb, ← hyy]
                    rfl
                  · rw [upd_eq, ← hyy]
                    rfl
                  · rw [upd_ne _ _ (by omega), zEn_h hi, ← hyy]
                    show _ = nI (va_up (st.1 s).2.2.2 (st.1 s).2.2.1 (fun i => if i < (st.1 s).1 then zLi (st.1 s).1 (st.1 s).2.1 k i else 0) r i)
                    by_cases e : r = (st.1 s).2.2.1
                    · rw [e, zup_eq]
                      by_cases hin : i < (st.1 s).1
                      · rw [if_pos hin, show 58 * s + (10 + 8 * (st.1 s).2.2.1 + i) = 58 * s + 10 + 8 * (st.1 s).2.2.1 + i by omega]
                        exact d1 i hin
                      · rw [if_neg hin, d2 _ (by omega), zenc hM1 s3 (by omega), zEn_h hi, hv.2.1.2.2.2 _ _ (by omega)]
                    · rw [zup_ne e, d2 _ (by omega), zenc hM1 s3 (by omega), zEn_h hi]
                · rw [zup_eq, upd_ne _ _ (by omega), d2 m (by omega), hk1.1 99 (by decide)]
              · intro j hj ih D d1 d2
                have r0 : va_up (va_up A1 100 W) 99 D 99 (58 * s) = nI (st.1 s).1 := by rw [zup_eq, d2 _ (by omega), H1.2.2.2.1]
                have r9 : va_up (va_up A1 100 W) 99 D 99 (58 * s + 9) = nI (st.1 s).2.2.1 := by rw [zup_eq, d2 _ (by omega), H1.2.2.2.2.2.1]
                refine bX12_adds_45 _ _ _ (zvRd ob_98 (r_many s3 r0) (by decide) ?_)
                rw [zi_le (by omega) (by omega), if_neg (by omega)]
                refine zvRd ob_98 (r_rows s3 r9) (by decide) ⟨_, fr_98_17.rd, nI (zLi (st.1 s).1 (st.1 s).2.1 k j), ?_, ?_⟩
                · rw [ar_106.rd (by omega), zup_ne (by decide), zup_ne (by decide), made j hj]
                · have ea : (10 : Int32) + (8 : Int32) * nI (st.1 s).2.2.1 + nI j = nI (10 + 8 * (st.1 s).2.2.1 + j) := by
                    show nI 10 + nI 8 * nI _ + nI j = _
                    rw [pk_mul, nI_add, nI_add]
                  rw [ea]
                  refine zvV ob_98 (m_lays s3 (k := 10 + 8 * (st.1 s).2.2.1 + j) (by omega) _) (by decide) ?_
                  rintro w3 rfl
                  rw [zup_eq, bx_uu, nI_1]
                  refine ih _ (fun i hi => ?_) (fun m hm => ?_)
                  · by_cases e : i = j
                    · rw [e, show 58 * s + 10 + 8 * (st.1 s).2.2.1 + j = 58 * s + (10 + 8 * (st.1 s).2.2.1 + j) by omega, upd_eq]
                    · rw [upd_ne _ _ (by omega)]
                      exact d1 i (by omega)
                  · rw [upd_ne _ _ (by omega)]
                    exact d2 m (by omega)
            have k0 := key 0 (Nat.zero_le _) (A1 99) (fun i hi => absurd hi (Nat.not_lt_zero _)) (fun _ _ => rfl)
            have e1 : va_up (va_up A1 100 W) 99 (A1 99) = va_up A1 100 W := by
              have : A1 99 = va_up A1 100 W 99 := by rw [zup_ne (by decide)]
              rw [this, zup_self]
            rw [e1] at k0
            exact k0
        · refine zAc.mk (-5) st 6 6 (by decide) (by decide) (fun I A t hC => ?_) (fun I A t hM => ?_)
          · have h0 := hC.ns hs.1
            have hv := hC.2.1 s hs.1
            have h8 := h0.1.n8
            have h6 := hv.2.1.1
            have gl31 := zGl_31 (u := (st.1 s).2.1) h8 (Nat.two_pow_pos (st.1 s).1)
            refine eX11_adds _ _ _ (bX11_adds_0 _ _ _ (zvO1 ob_0 (v_orderIn1 hC.1 hs) (by decide) ?_))
            rw [if_pos hy]
            refine zvR2 ob_0 (v_linesOf h0.1) (by decide) ?_
            rintro w1 ⟨B, C, rfl, hL⟩
            have hkb := zKp.bc I A B C
            have hC0 := hkb.ci hC
            have h1 := hC0.ns hs.1
            have hsz := v_rsize (X := X) (I := I) (A := zBC A B C) (t := t) h1.1.1
            rw [h1.2.2.1] at hsz
            refine zvRd ob_84 (v_total hv.1 hL) (by decide) ?_
            rw [zi_lt (by omega) (by omega), if_pos hkl]
            refine zvRf h1.1.1.ob (v_rowsOf h1.1.1) (by decide) (zvRd h1.1.1.rob hsz (by decide) ?_)
            show if nI _ < nI 6 then _ else _
            rw [zi_lt (by omega) (by decide), if_neg hR]
            exact ⟨rfl, _, _, rfl, hC0, hkb.pm⟩
          · have h1 := m_ord1 (X := X) (I := I) (t := t) hM.m3 hs
            obtain ⟨s3, rfl, s0⟩ := hs
            have H : zMR A s (st.1 s).1 (st.1 s).2.1 (st.1 s).2.2.1 (st.1 s).2.2.2 := hM.m3 s s3
            have h6 := H.2.2.1.1
            refine eX12_adds _ _ _ (bX12_adds_0 _ _ _ (zvRd ob_98 h1 (by decide) ?_))
            rw [if_neg (by decide), if_pos hy]
            refine zvI1 ob_98 (m_laysLine H hk) (by decide) ?_
            rintro w1 ⟨B, C, Dm, rfl, -⟩
            rw [zB_ifP, if_pos hkl]
            have hk1 : zKp I A (zIf I 16 (nI (2 ^ (st.1 s).1 - 1))) (va_up (zMC A B C) 106 Dm) := (zKp.mc I A _ B C).a (p := 106) (by decide)
            have hM1 := hk1.mi hM
            have H1 : zMR (va_up (zMC A B C) 106 Dm) s (st.1 s).1 (st.1 s).2.1 (st.1 s).2.2.1 (st.1 s).2.2.2 := hM1.m3 s s3
            refine zvRd ob_98 (m_rows H1) (by decide) ?_
            show if nI _ = nI 6 then _ else _
            rw [zi_eq (by omega) (by decide), if_pos (by omega)]
            exact ⟨rfl, _, _, rfl, hM1, hk1.pc⟩
      · refine zAc.mk (-1) st 6 6 (by decide) (by decide) (fun I A t hC => ?_) (fun I A t hM => ?_)
        · have h0 := hC.ns hs.1
          have hv := hC.2.1 s hs.1
          have h8 := h0.1.n8
          have gl31 := zGl_31 (u := (st.1 s).2.1) h8 (Nat.two_pow_pos (st.1 s).1)
          refine eX11_adds _ _ _ (bX11_adds_0 _ _ _ (zvO1 ob_0 (v_orderIn1 hC.1 hs) (by decide) ?_))
          rw [if_pos hy]
          refine zvR2 ob_0 (v_linesOf h0.1) (by decide) ?_
          rintro w1 ⟨B, C, rfl, hL⟩
          have hkb := zKp.bc I A B C
          refine zvRd ob_84 (v_total hv.1 hL) (by decide) ?_
          rw [zi_lt (by omega) (by omega), if_neg hkl]
          exact ⟨rfl, _, _, rfl, hkb.ci hC, hkb.pm⟩
        · have h1 := m_ord1 (X := X) (I := I) (t := t) hM.m3 hs
          obtain ⟨s3, rfl, s0⟩ := hs
          have H : zMR A s (st.1 s).1 (st.1 s).2.1 (st.1 s).2.2.1 (st.1 s).2.2.2 := hM.m3 s s3
          refine eX12_adds _ _ _ (bX12_adds_0 _ _ _ (zvRd ob_98 h1 (by decide) ?_))
          rw [if_neg (by decide), if_pos hy]
          refine zvI1 ob_98 (m_laysLine H hk) (by decide) ?_
          rintro w1 ⟨B, C, Dm, rfl, -⟩
          rw [zB_ifP, if_neg hkl]
          have hk1 : zKp I A (zIf I 16 (nI (2 ^ (st.1 s).1 - 1))) (va_up (zMC A B C) 106 Dm) := (zKp.mc I A _ B C).a (p := 106) (by decide)
          exact ⟨rfl, _, _, rfl, hk1.mi hM, hk1.pc⟩
    · refine zAc.mk (-2) st 6 6 (by decide) (by decide) (fun I A t hC => ?_) (fun I A t hM => ?_)
      · refine eX11_adds _ _ _ (bX11_adds_0 _ _ _ (zvO1 ob_0 (v_orderIn1 hC.1 hs) (by decide) ?_))
        rw [if_neg hy]
        exact zQa.id hC
      · refine eX12_adds _ _ _ (bX12_adds_0 _ _ _ (zvRd ob_98 (m_ord1 hM.m3 hs) (by decide) ?_))
        rw [if_neg (by decide), if_neg hy]
        exact zQb_.id hM
  · refine zAc.mk (-2) st 6 6 (by decide) (by decide) (fun I A t hC => ?_) (fun I A t hM => ?_)
    · exact eX11_adds _ _ _ (bX11_adds_0 _ _ _ (zvO0 ob_0 (v_orderIn0 hC.1 hn) (by decide) (zQa.id hC)))
    · refine eX12_adds _ _ _ (bX12_adds_0 _ _ _ (zvRd ob_98 (m_ord0 hM.m3 hn) (by decide) ?_))
      rw [if_pos rfl]
      exact zQb_.id hM
end ZB2
