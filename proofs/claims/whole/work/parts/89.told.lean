/-! ===== told ===== -/
theorem zCI.io2 {st : zSt} {I A I' A' : zF2} {tp' ou' : zBy} {f1' f2' : Int32} (H : zCI st I A) (h : ∀ p, (p < 17 ∨ 22 ≤ p) → p < 75 → A' p = A p ∧ I' p = I p) (tp : zTp I' A' 75 76 400 tp') (ou : zTp I' A' 77 78 160 ou') (e1 : I' 79 4 = f1') (e2 : I' 79 5 = f2') : zCI (st.1, st.2.1, tp', ou', f1', f2') I' A' := by
  obtain ⟨h1, h2, ⟨p1, p2, hd, p3, p4, p5⟩, -, -, -, -⟩ := H
  have cs : ∀ q x, zCS I A q x → (q + 5 ≤ 17 ∨ 22 ≤ q) → q + 5 ≤ 75 → zCS I' A' q x := fun q x hx hq hq2 => hx.same (fun r hr => h _ (by omega) (by omega))
  exact ⟨fun s hs => cs _ _ (h1 s hs) (by omega) (by omega), h2, ⟨p1, by rw [(h 22 (by decide) (by decide)).2]; exact p2, hd, p3, by rw [(h 22 (by decide) (by decide)).2]; exact p4, zRg.same (fun i _ _ => ⟨by rw [(h 24 (by decide) (by decide)).1], fun x hx => cs _ _ hx (by omega) (by have := zix_lt hd i; omega)⟩) p5⟩, tp, ou, e1, e2⟩
noncomputable def zTold (st : zSt) (s : Nat) : Int32 × zSt := match zParse st.2.2.1 with
  | .inl kp => (-4, (st.1, st.2.1, (0, st.2.2.1.2), st.2.2.2.1, nI kp.1, nI kp.2))
  | .inr (_, y) => (nI (ztw y.1 y.2.1), zPd (st.1, st.2.1, (0, st.2.2.1.2), st.2.2.2.1, 0, -1) s y)
section ZTo
variable {X : zX} {st : zSt} {x : Int32}
theorem zTo_frame {I A I' A' : zF2} (hC : zCI st I A) (hf : zFrm I A I' A') {f1 f2 : Int32} (e1 : I' 79 4 = f1) (e2 : I' 79 5 = f2) : zCI (st.1, st.2.1, (0, st.2.2.1.2), st.2.2.2.1, f1, f2) (va_up I' 75 (upd (I' 75) 1 (nI 0))) A' := by
  have ⟨h1, h2, h3, h4, h5, h6, h7⟩ := hC
  refine hC.io2 (fun p hp hp2 => ⟨(hf p hp).1, by rw [zup_ne (by omega)]; exact (hf p hp).2 (by omega)⟩) ⟨Nat.zero_le _, by rw [zup_eq, upd_eq], fun i hi => absurd hi (Nat.not_lt_zero _)⟩ ⟨h5.1, by rw [zup_ne (by decide), (hf 77 (by decide)).2 (by decide)]; exact h5.2.1, fun i hi => by rw [(hf 78 (by decide)).1]; exact h5.2.2 i hi⟩ (by rw [zup_ne (by decide)]; exact e1) (by rw [zup_ne (by decide)]; exact e2)
theorem v_told {I A : zF2} {t : zW} {s : Nat} (hs : s < 3) (hC : zCI st I A) : zEv X 9 0 0 MX11_told [.ref 0, .int (nI s)] (zWd I A t) (zQa (zTold st s).2 I A t (zTold st s).1) := by
  have ⟨h1, h2, h3, h4, h5, h6, h7⟩ := hC
  refine eX11_told _ _ (bX11_told_0 _ _ (zcRd (v_isSlot (nI s)) (by decide) ?_))
  rw [zB_t (zin_y hs)]
  refine ⟨_, fr_0_5.rd, _, fr_0_1.rd, zvQ (v_read h4) (by decide) (fun f I1 A1 e hb => ?_) (fun tk y I1 A1 e hR => ?_)⟩
  · unfold zTold
    rw [e]
    have ht : I1 75 1 = nI st.2.2.1.1 := by
      rw [(hb.1 75 (by decide)).2 (by decide)]
      exact h4.2.1
    refine ⟨_, fr_0_3.rd, zvV ob_75 (v_shorten (k := 0) tT75 ht (Nat.zero_le _) (by have := h4.1; omega)) (by decide) ?_⟩
    rintro w1 rfl
    rw [if_pos rfl]
    exact ⟨rfl, _, _, rfl, zTo_frame hC hb.1 hb.2.1 hb.2.2, zHiE.pm (fun p hp => ⟨(hb.1 p (by omega)).1, by rw [zup_ne (by omega)]; exact (hb.1 p (by omega)).2 (by omega)⟩)⟩
  · unfold zTold
    rw [e]
    obtain ⟨⟨r1, r2, r3, r4, r5, r6⟩, rS⟩ := hR
    refine ⟨_, fr_0_3.rd, zvV ob_75 (v_shorten (k := 0) tT75 r2.2.1 (Nat.zero_le _) (by have := h4.1; omega)) (by decide) ?_⟩
    rintro w1 rfl
    rw [if_neg (by decide)]
    have hn := zParse_n e
    have hy : zVl y := ⟨rS.1.2.1, rS.2.1, fun z => by omega⟩
    have hC1 := zTo_frame hC r4 r5 r6
    have rS1 : zCS (va_up I1 75 (upd (I1 75) 1 (nI 0))) A1 17 y := rS.same (fun r hr => ⟨rfl, zup_ne (by omega)⟩)
    have hhi : zHiE I A (va_up I1 75 (upd (I1 75) 1 (nI 0))) A1 := fun p hp => ⟨(r4 p (by omega)).1, by rw [zup_ne (by omega)]; exact (r4 p (by omega)).2 (by omega)⟩
    refine zvV ob_0 (v_become hC1 rS1 hy hs) (by decide) ?_
    rintro w1 ⟨I2, A2, rfl, k1, k2, k3⟩
    refine ⟨_, fr_0_1.rd, zvRd k1.1.1.ob (v_twos k1.1) (by decide) ⟨rfl, I2, A2, rfl, ?_, (hhi.trans k2).pm⟩⟩
    rcases k3 with ⟨e3, k3⟩ | ⟨e3, k3⟩
    · show zCI (zPd _ s y) _ _
      rw [zPd_y e3]
      exact k3
    · show zCI (zPd _ s y) _ _
      rw [zPd_n e3]
      exact k3
theorem m_told {I A : zF2} {t : zW} {s : Nat} (hs : s < 3) (hM : zMIv st I A) : zEv X 8 0 0 MX12_told [.ref 98, .int (nI s)] (zWd I A t) (zQb_ (zTold st s).2 I A t (zTold st s).1) := by
  have ⟨g1, g2, ⟨a1, a2, a3⟩, ⟨b1, b2, b3⟩, ⟨c1, c2, c3⟩, d1, d2⟩ := hM
  have hsl : zRd X 1 MX12_isSlot [.int (nI s)] (zWd I A t) (zB true) := by
    have := m_isSlot (X := X) (w := zWd I A t) (nI s)
    rw [decide_eq_true ⟨nI_pos (by omega), by rw [zb_lt (by decide) (by omega)]; omega⟩] at this
    exact this
  refine eX12_told _ _ (bX12_told_0 _ _ (zcRd hsl (by decide) ?_))
  rw [zB_t rfl]
  refine ⟨_, fi_98_6.wr, _, fi_98_7.wr, _, fi_98_12.wr, _, fi_98_8.wr, ?_⟩
  generalize hJ : va_up (va_up (va_up (va_up I 98 (upd (I 98) 6 0)) 98 (upd (va_up I 98 (upd (I 98) 6 0) 98) 7 (-1))) 98 (upd (va_up (va_up I 98 (upd (I 98) 6 0)) 98 (upd (va_up I 98 (upd (I 98) 6 0) 98) 7 (-1)) 98) 12 0)) 98 (upd (va_up (va_up (va_up I 98 (upd (I 98) 6 0)) 98 (upd (va_up I 98 (upd (I 98) 6 0) 98) 7 (-1))) 98 (upd (va_up (va_up I 98 (upd (I 98) 6 0)) 98 (upd (va_up I 98 (upd (I 98) 6 0) 98) 7 (-1)) 98) 12 0) 98) 8 0) = J
  have jp : ∀ p, p ≠ 98 → J p = I p := fun p hp => by
    rw [← hJ, zup_ne hp, zup_ne hp, zup_ne hp, zup_ne hp]
  have jk : ∀ k, k ≠ 6 → k ≠ 7 → k ≠ 12 → k ≠ 8 → J 98 k = I 98 k := fun k q6 q7 q12 q8 => by
    rw [← hJ]
    exact (zIf_ne _ _ q8).trans ((zIf_ne _ _ q12).trans ((zIf_ne _ _ q7).trans (zIf_ne I _ q6)))
  have j6 : J 98 6 = 0 := by
    rw [← hJ]
    exact (zIf_ne _ _ (by decide)).trans ((zIf_ne _ _ (by decide)).trans ((zIf_ne _ _ (by decide)).trans (zIf_eq I _ _)))
  have j7 : J 98 7 = -1 := by
    rw [← hJ]
    exact (zIf_ne _ _ (by decide)).trans ((zIf_ne _ _ (by decide)).trans (zIf_eq _ _ _))
  have j12 : J 98 12 = 0 := by
    rw [← hJ]
    exact (zIf_ne _ _ (by decide)).trans (zIf_eq _ _ _)
  have j8 : J 98 8 = nI 0 := by
    rw [← hJ]
    exact zIf_eq _ _ _
  refine zvV ob_98 m_remembers (by decide) ?_
  rintro w1 ⟨W, rfl, hW⟩
  have hT : zMt st.2.2.1 J (va_up A 100 W) := ⟨b1, by rw [jk 5 (by decide) (by decide) (by decide) (by decide)]; exact b2, fun i hi => by rw [zup_ne (by decide)]; exact b3 i hi⟩
  refine zvV ob_98 (m_next hT j8 (Nat.zero_le _)) (by decide) ?_
  rintro w1 ⟨I1, rfl, hc, hf⟩
  have hq : zQl J (va_up A 100 W) st.2.2.1 (zLex st.2.2.1 0) I1 (va_up A 100 W) := ⟨(zLex_v (Nat.zero_le _)).1, hf.mt hT, hc, hf.fm ⟨fun _ _ => rfl, fun _ _ => rfl, fun _ _ => rfl⟩, (hf.2 6 (by decide)).trans j6, (hf.2 7 (by decide)).trans j7, (hf.2 12 (by decide)).trans j12⟩
  have hg : zSg (va_up A 100 W) (zEs st.1) := fun k hk => by
    rw [zup_ne (by decide)]
    exact g1 k hk
  have mx : ∀ (I2 A2 : zF2) (f1 f2 : Int32) (x : Int32), zFm J (va_up A 100 W) I2 A2 → I2 98 6 = f1 → I2 98 7 = f2 → zMX st.2.1 (0, st.2.2.1.2) st.2.2.2.1 f1 f2 (va_up I2 98 (upd (I2 98) 5 0)) A2 := fun I2 A2 f1 f2 x hF e1 e2 => by
    have q : ∀ k, k ≠ 5 → (k < 6 ∨ 13 ≤ k) → va_up I2 98 (upd (I2 98) 5 0) 98 k = I 98 k := fun k k5 kk => by
      refine (zIf_ne I2 _ k5).trans ((hF.2.2 k kk).trans (jk k ?_ ?_ ?_ ?_)) <;> omega
    have qa : ∀ p, p ≠ 99 → p ≠ 100 → A2 p = A p := fun p p9 p10 => (hF.1 p p9).trans (zup_ne p10)
    refine ⟨⟨a1, (q 3 (by decide) (by decide)).trans a2, fun j H hj => by rw [qa 101 (by decide) (by decide)]; exact a3 j H hj⟩, ⟨Nat.zero_le _, zIf_eq I2 _ _, fun i hi => absurd hi (Nat.not_lt_zero _)⟩, ⟨c1, (q 28 (by decide) (by decide)).trans c2, fun i hi => by rw [qa 114 (by decide) (by decide)]; exact c3 i hi⟩, (zIf_ne I2 _ (by decide)).trans e1, (zIf_ne I2 _ (by decide)).trans e2⟩
  have lo : ∀ (I2 A2 : zF2), zFm J (va_up A 100 W) I2 A2 → zLoE I A (va_up I2 98 (upd (I2 98) 5 0)) A2 := fun I2 A2 hF p hp => ⟨(hF.1 p (by omega)).trans (zup_ne (by omega)), by rw [zup_ne (by omega)]; exact (hF.2.1 p (by omega)).trans (jp p (by omega))⟩
  have wa : ∀ (I2 A2 : zF2), zFm J (va_up A 100 W) I2 A2 → ∀ k, k < 174 → A2 100 k = nI (zEs st.1 k) := fun I2 A2 hF k hk => by
    rw [hF.1 100 (by decide), zup_eq, hW k hk]
    exact g1 k hk
  refine zvP (m_order hs hq hg) (by decide) (fun f I2 A2 e hb => ?_) (fun tk y I2 A2 e hR => ?_)
  · unfold zTold
    rw [e]
    refine ⟨_, fi_98_5.wr, _, fi_98_12.rd, ?_⟩
    have e12 : va_up I2 98 (upd (I2 98) 5 0) 98 12 = 1 := (zIf_ne I2 _ (by decide)).trans hb.2.2.2
    rw [e12, if_neg (by decide)]
    have key : ∀ k, k ≤ 174 → ∀ D : Nat → Int32, (∀ j, j < k → D j = nI (zEs st.1 j)) → zRn X 8 0 0 MX12_told 57 [some (.ref 98), none, some (.int (nI k))] [] (zWd (va_up I2 98 (upd (I2 98) 5 0)) (va_up A2 99 D) t) (zQb_ (st.1, st.2.1, (0, st.2.2.1.2), st.2.2.2.1, nI f.1, nI f.2) I A t (-4)) := by
      refine zdown ?_ ?_
      · intro D hD
        refine bX12_told_57 _ _ ?_
        rw [if_pos (by decide)]
        have hF := hb.1.a D
        refine ⟨rfl, _, _, rfl, ⟨fun k hk => by rw [zup_eq]; exact hD k hk, g2, mx I2 _ _ _ 0 hF hb.2.1 hb.2.2.1⟩, (lo I2 _ hF).pc⟩
      · intro k hk ih D hD
        refine bX12_told_57 _ _ ?_
        show if nI 174 ≤ nI k then _ else _
        rw [zi_le (by decide) (by omega), if_neg (by omega)]
        refine ⟨_, fr_98_0.rd, _, fr_98_1.rd, _, ar_100.rd hk, _, ar_99.wr hk, ?_⟩
        rw [zup_eq, bx_uu, nI_1, zup_ne (by decide), wa I2 A2 hb.1 k hk]
        refine ih _ (fun j hj => ?_)
        by_cases c : j = k
        · rw [c, upd_eq]
        · rw [upd_ne _ _ c]
          exact hD j (by omega)
    have k0 := key 0 (Nat.zero_le _) (A2 99) (fun j hj => absurd hj (Nat.not_lt_zero _))
    rw [zup_self] at k0
    exact k0
  · unfold zTold
    rw [e]
    obtain ⟨q, hgy, hy⟩ := hR
    refine ⟨_, fi_98_5.wr, _, fi_98_12.rd, ?_⟩
    have e12 : va_up I2 98 (upd (I2 98) 5 0) 98 12 = 0 := (zIf_ne I2 _ (by decide)).trans q.2.2.2.2.2.2
    rw [e12, if_pos rfl]
    have hF := q.2.2.2.1
    refine zvRd ob_98 (m_belowMany (hgy.mr hs hy)) (by decide) ?_
    exact zvD (st := (st.1, st.2.1, (0, st.2.2.1.2), st.2.2.2.1, 0, -1)) hs g2 hy (mx I2 A2 _ _ 0 hF q.2.2.2.2.1 q.2.2.2.2.2.1) (wa I2 A2 hF) hgy (lo I2 A2 hF) _ (by decide)
theorem a_told : zAc X MX11_told MX12_told [.int x] st := by
  by_cases c : zin 3 x = true
  · obtain ⟨s, hs, rfl⟩ := zin_e.mp c
    exact zAc.mk (zTold st s).1 (zTold st s).2 9 8 (by decide) (by decide) (fun I A t hC => v_told hs hC) (fun I A t hM => m_told hs hM)
  · rw [Bool.not_eq_true] at c
    refine zAc.mk (-2) st 9 8 (by decide) (by decide) (fun I A t hC => ?_) (fun I A t hM => ?_)
    · refine eX11_told _ _ (bX11_told_0 _ _ (zcRd (v_isSlot x) (by decide) ?_))
      rw [zB_f c]
      exact zQa.id hC
    · have hsl := m_isSlot (X := X) (w := zWd I A t) x
      rw [zin_i (by decide), c] at hsl
      refine eX12_told _ _ (bX12_told_0 _ _ (zcRd hsl (by decide) ?_))
      rw [zB_f rfl]
      exact zQb_.id hM
end ZTo
