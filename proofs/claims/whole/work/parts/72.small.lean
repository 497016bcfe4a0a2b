/-! ===== end, fault, count, octet ===== -/
theorem zCI.io {st : zSt} {I A I' A' : zF2} {tp' ou' : zBy} {f1' f2' : Int32} (H : zCI st I A) (h : ∀ p, p < 75 → A' p = A p ∧ I' p = I p) (tp : zTp I' A' 75 76 400 tp') (ou : zTp I' A' 77 78 160 ou') (e1 : I' 79 4 = f1') (e2 : I' 79 5 = f2') : zCI (st.1, st.2.1, tp', ou', f1', f2') I' A' := by
  obtain ⟨h1, h2, ⟨p1, p2, hd, p3, p4, p5⟩, -, -, -, -⟩ := H
  have cs : ∀ q x, zCS I A q x → q + 5 ≤ 75 → zCS I' A' q x := fun q x hx hq => hx.same (fun r hr => h _ (by omega))
  exact ⟨fun s hs => cs _ _ (h1 s hs) (by omega), h2, ⟨p1, by rw [(h 22 (by decide)).2]; exact p2, hd, p3, by rw [(h 22 (by decide)).2]; exact p4, zRg.same (fun i _ _ => ⟨by rw [(h 24 (by decide)).1], fun x hx => cs _ _ hx (by have := zix_lt hd i; omega)⟩) p5⟩, tp, ou, e1, e2⟩
theorem zMIv.io {st : zSt} {I A I' A' : zF2} {tp' ou' : zBy} {f1' f2' : Int32} (H : zMIv st I A) (h1 : A' 99 = A 99) (h2 : A' 101 = A 101) (h3 : I' 98 3 = I 98 3) (tp : tp'.1 ≤ 400 ∧ I' 98 5 = nI tp'.1 ∧ ∀ i, i < tp'.1 → A' 102 i = nI (tp'.2 i) ∧ tp'.2 i < 256) (ou : ou'.1 ≤ 160 ∧ I' 98 28 = nI ou'.1 ∧ ∀ i, i < ou'.1 → A' 114 i = nI (ou'.2 i) ∧ ou'.2 i < 256) (e1 : I' 98 6 = f1') (e2 : I' 98 7 = f2') : zMIv (st.1, st.2.1, tp', ou', f1', f2') I' A' := by
  obtain ⟨g1, g2, ⟨a1, a2, a3⟩, -, -, -, -⟩ := H
  exact ⟨fun k hk => by rw [h1]; exact g1 k hk, g2, ⟨a1, by rw [h3]; exact a2, fun j H hj => by rw [h2]; exact a3 j H hj⟩, tp, ou, e1, e2⟩
/-- a store of bytes of the class -/
def zT_ (p cap : Nat) : Prop := zOb p 0 ∧ zFr p 0 0 (p + 1) ∧ zFi p 0 1 ∧ zAr (p + 1) cap ∧ cap < 2 ^ 31
theorem tT75 : zT_ 75 400 := ⟨ob_75, fr_75_0, fi_75_1, ar_76, by decide⟩
theorem tT77 : zT_ 77 160 := ⟨ob_77, fr_77_0, fi_77_1, ar_78, by decide⟩
theorem zupd_self (f : Nat → Int32) (k : Nat) : upd f k (f k) = f := funext (fun j => by
  by_cases e : j = k
  · subst e; rw [upd_eq]
  · rw [upd_ne _ _ e])
section ZSm
variable {X : zX} {I A : zF2} {t : zW} {st : zSt} {x : Int32}
theorem v_bsize {p cap : Nat} (hT : zT_ p cap) : zRd X 0 MX0_size [.ref p] (zWd I A t) (I p 1) := eX0_size _ (bX0_size_0 _ ⟨_, hT.2.2.1.rd, rfl, rfl⟩)
theorem v_shorten {p cap k n : Nat} (hT : zT_ p cap) (hI : I p 1 = nI n) (hk : k ≤ n) (hn : n < 2 ^ 31) : zEv X 0 0 0 MX0_shorten [.ref p, .int (nI k)] (zWd I A t) (fun v w1 => v = none ∧ w1 = zWd (va_up I p (upd (I p) 1 (nI k))) A t) := by
  refine eX0_shorten _ _ (bX0_shorten_0 _ _ ?_)
  rw [if_neg (nI_pos (by omega))]
  refine ⟨_, hT.2.2.1.rd, ?_⟩
  rw [hI, zi_le (by omega) (by omega)]
  by_cases c : n ≤ k
  · rw [if_pos c]
    have : k = n := by omega
    subst this
    rw [← hI, zupd_self, zup_self]
    exact ⟨rfl, rfl⟩
  · rw [if_neg c]
    exact ⟨_, hT.2.2.1.wr, rfl, rfl⟩
theorem a_end : zAc X MX11_end MX12_end [.int x] st := by
  by_cases c : zin (st.2.2.1.1 + 1) x = true
  · obtain ⟨k, hk, rfl⟩ := zin_e.mp c
    refine zAc.mk (nI k) (st.1, st.2.1, (k, st.2.2.1.2), st.2.2.2) 3 3 (by decide) (by decide) (fun I A t hC => ?_) (fun I A t hM => ?_)
    · have ⟨h1, h2, h3, ⟨t1, t2, t3⟩, h5, h6, h7⟩ := hC
      refine eX11_end _ _ (bX11_end_0 _ _ ?_)
      rw [if_neg (nI_pos (by omega))]
      refine ⟨_, fr_0_3.rd, zvRd ob_75 (v_bsize tT75) (by decide) ?_⟩
      rw [t2, zi_le (by omega) (by omega), if_pos (by omega)]
      refine ⟨_, fr_0_3.rd, zvV ob_75 (v_shorten tT75 t2 (by omega) (by omega)) (by decide) ?_⟩
      rintro w1 rfl
      refine ⟨rfl, _, _, rfl, ?_, zHiE.pm ((zHiE.refl I A).f (by decide))⟩
      refine hC.io (fun p hp => ⟨rfl, by rw [zup_ne (by omega)]⟩) ⟨by simp only []; omega, by rw [zup_eq, upd_eq], fun i hi => t3 i (by simp only [] at hi; omega)⟩ ⟨h5.1, by rw [zup_ne (by decide)]; exact h5.2.1, h5.2.2⟩ (by rw [zup_ne (by decide)]; exact h6) (by rw [zup_ne (by decide)]; exact h7)
    · have ⟨g1, g2, a1, ⟨b1, b2, b3⟩, c1, d1, d2⟩ := hM
      refine eX12_end _ _ (bX12_end_0 _ _ ⟨_, fi_98_5.rd, ?_⟩)
      rw [b2]
      refine zcRd (m_inC (nI k) rfl (by omega)) (by decide) ?_
      rw [zB_t c]
      refine ⟨_, fi_98_5.wr, rfl, _, _, rfl, ?_, zLoE.pc ((zLoE.refl I A).f (by decide))⟩
      exact hM.io rfl rfl (zIf_ne I _ (by decide)) ⟨by simp only []; omega, zIf_eq I _ _, fun i hi => b3 i (by simp only [] at hi; omega)⟩ ⟨c1.1, (zIf_ne I _ (by decide)).trans c1.2.1, c1.2.2⟩ ((zIf_ne I _ (by decide)).trans d1) ((zIf_ne I _ (by decide)).trans d2)
  · rw [Bool.not_eq_true] at c
    refine zAc.mk (-1) st 3 3 (by decide) (by decide) (fun I A t hC => ?_) (fun I A t hM => ?_)
    · have ⟨h1, h2, h3, ⟨t1, t2, t3⟩, h5, h6, h7⟩ := hC
      refine eX11_end _ _ (bX11_end_0 _ _ ?_)
      rw [← zin_i (by omega)] at c
      have c := of_decide_eq_false c
      by_cases e : x < 0
      · rw [if_pos e]
        exact zQa.id hC
      · rw [if_neg e]
        refine ⟨_, fr_0_3.rd, zvRd ob_75 (v_bsize tT75) (by decide) ?_⟩
        rw [t2, if_neg (fun e2 => c ⟨e, Int32.not_lt.mpr e2⟩)]
        exact zQa.id hC
    · have ⟨g1, g2, a1, ⟨b1, b2, b3⟩, c1, d1, d2⟩ := hM
      refine eX12_end _ _ (bX12_end_0 _ _ ⟨_, fi_98_5.rd, ?_⟩)
      rw [b2]
      refine zcRd (m_inC x rfl (by omega)) (by decide) ?_
      rw [zB_f c]
      exact zQb_.id hM
theorem a_fault : zAc X MX11_fault MX12_fault [.int x] st := by
  by_cases c0 : x = 0
  · subst c0
    refine zAc.mk st.2.2.2.2.1 st 3 3 (by decide) (by decide) (fun I A t hC => ?_) (fun I A t hM => ?_)
    · refine eX11_fault _ _ (bX11_fault_0 _ _ ?_)
      rw [if_pos rfl]
      refine ⟨_, fr_0_5.rd, zvRd (d1 := 0) ob_79 (eX7_faultKind _ (bX7_faultKind_0 _ ⟨_, fi_79_4.rd, rfl, rfl⟩)) (by decide) ?_⟩
      rw [hC.2.2.2.2.2.1]
      exact zQa.id hC
    · refine eX12_fault _ _ (bX12_fault_0 _ _ ?_)
      rw [if_pos rfl]
      refine ⟨_, fi_98_6.rd, ?_⟩
      rw [hM.2.2.2.2.2.1]
      exact zQb_.id hM
  · by_cases c1 : x = 1
    · subst c1
      refine zAc.mk st.2.2.2.2.2 st 3 3 (by decide) (by decide) (fun I A t hC => ?_) (fun I A t hM => ?_)
      · refine eX11_fault _ _ (bX11_fault_0 _ _ ?_)
        rw [if_neg c0, if_pos rfl]
        refine ⟨_, fr_0_5.rd, zvRd (d1 := 0) ob_79 (eX7_faultPlace _ (bX7_faultPlace_0 _ ⟨_, fi_79_5.rd, rfl, rfl⟩)) (by decide) ?_⟩
        rw [hC.2.2.2.2.2.2]
        exact zQa.id hC
      · refine eX12_fault _ _ (bX12_fault_0 _ _ ?_)
        rw [if_neg c0, if_pos rfl]
        refine ⟨_, fi_98_7.rd, ?_⟩
        rw [hM.2.2.2.2.2.2]
        exact zQb_.id hM
    · refine zAc.mk (-1) st 3 3 (by decide) (by decide) (fun I A t hC => ?_) (fun I A t hM => ?_)
      · refine eX11_fault _ _ (bX11_fault_0 _ _ ?_)
        rw [if_neg c0, if_neg c1]
        exact zQa.id hC
      · refine eX12_fault _ _ (bX12_fault_0 _ _ ?_)
        rw [if_neg c0, if_neg c1]
        exact zQb_.id hM
theorem a_octet : zAc X MX11_octet MX12_octet [.int x] st := by
  by_cases c : zin st.2.2.2.1.1 x = true
  · obtain ⟨k, hk, rfl⟩ := zin_e.mp c
    refine zAc.mk (nI (st.2.2.2.1.2 k)) st 3 3 (by decide) (by decide) (fun I A t hC => ?_) (fun I A t hM => ?_)
    · have ⟨h1, h2, h3, h4, ⟨o1, o2, o3⟩, h6, h7⟩ := hC
      refine eX11_octet _ _ (bX11_octet_0 _ _ ⟨_, fr_0_4.rd, zvRd (d1 := 0) (x := nI (st.2.2.2.1.2 k)) ob_77 ?_ (by decide) (zQa.id hC)⟩)
      refine eX0_byteAt _ _ (bX0_byteAt_0 _ _ ?_)
      rw [if_neg (nI_pos (by omega))]
      refine ⟨_, fi_77_1.rd, ?_⟩
      rw [o2, zi_le (by omega) (by omega), if_neg (by omega)]
      refine ⟨_, fr_77_0.rd, _, ar_78.rd (by omega), ?_⟩
      rw [(o3 k hk).1]
      exact ⟨rfl, rfl⟩
    · have ⟨g1, g2, a1, b1, ⟨c1, c2, c3⟩, d1, d2⟩ := hM
      refine eX12_octet _ _ (bX12_octet_0 _ _ ⟨_, fi_98_28.rd, ?_⟩)
      rw [c2]
      refine zcRd (m_inN (nI k) (by omega) (by omega)) (by decide) ?_
      rw [zB_t c]
      refine ⟨_, fr_98_27.rd, _, ar_114.rd (by omega), ?_⟩
      rw [(c3 k hk).1]
      exact zQb_.id hM
  · rw [Bool.not_eq_true] at c
    refine zAc.mk (-1) st 3 3 (by decide) (by decide) (fun I A t hC => ?_) (fun I A t hM => ?_)
    · have ⟨h1, h2, h3, h4, ⟨o1, o2, o3⟩, h6, h7⟩ := hC
      refine eX11_octet _ _ (bX11_octet_0 _ _ ⟨_, fr_0_4.rd, zvRd (d1 := 0) (x := -1) ob_77 ?_ (by decide) (zQa.id hC)⟩)
      refine eX0_byteAt _ _ (bX0_byteAt_0 _ _ ?_)
      rw [← zin_h (by omega)] at c
      have c := of_decide_eq_false c
      by_cases e : x < 0
      · rw [if_pos e]
        exact ⟨rfl, rfl⟩
      · rw [if_neg e]
        refine ⟨_, fi_77_1.rd, ?_⟩
        have e2 : nI st.2.2.2.1.1 ≤ x := Classical.byContradiction (fun e2 => c ⟨e, e2⟩)
        rw [o2, if_pos e2]
        exact ⟨rfl, rfl⟩
    · have ⟨g1, g2, a1, b1, ⟨c1, c2, c3⟩, d1, d2⟩ := hM
      refine eX12_octet _ _ (bX12_octet_0 _ _ ⟨_, fi_98_28.rd, ?_⟩)
      rw [c2]
      by_cases z : st.2.2.2.1.1 = 0
      · refine zcRd (x := 0) ?_ (d1 := 0) (by decide) ?_
        · have := m_in (X := X) (w := zWd I A t) x.toInt64 0 (nI st.2.2.2.1.1 - 1).toInt64
          rw [decide_eq_false] at this
          · exact this
          · rw [z]
            rintro ⟨h, h'⟩
            exact h' (Int64.lt_of_lt_of_le (by decide) (Int64.not_lt.mp h))
        · rw [if_pos rfl]
          exact zQb_.id hM
      · refine zcRd (m_inN x (by omega) (by omega)) (by decide) ?_
        rw [zB_f c]
        exact zQb_.id hM
end ZSm
