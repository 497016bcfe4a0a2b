section ZT3
variable {X : zX} {st : zSt} {x : Int32}
def zLB (l : List Nat) : zBy := (l.length, fun i => l.getD i 0)
theorem a_tell : zAc X MX11_tell MX12_tell [.int x] st := by
  rcases zslot st.1 x with ⟨s, hs⟩ | hn
  · by_cases hv : zVl (st.1 s)
    · refine ⟨nI (zTe (st.1 s)).length, (st.1, st.2.1, st.2.2.1, zLB (zTe (st.1 s)), st.2.2.2.2), fun I A t hC => ⟨10, _, by decide, ?_, fun _ _ q => q⟩, fun I A t hM => ?_⟩
      · have ⟨h1, h2, h3, h4, ⟨o1, o2, o3⟩, h6, h7⟩ := hC
        have h0 := hC.1 s hs.1
        have hl := zTe_len hv
        refine eX11_tell _ _ (bX11_tell_0 _ _ (zvO1 ob_0 (v_orderIn1 hC.1 hs) (by decide) ⟨_, fr_0_4.rd, zvV ob_77 (v_shorten (k := 0) tT77 o2 (Nat.zero_le _) (by omega)) (by decide) ?_⟩))
        rintro w1 rfl
        refine ⟨_, fr_0_4.rd, zvV h0.1.1.ob (v_writeTo (I0 := I) (A0 := A) h0 (by have := hs.1; omega) ⟨fun j hj hj2 => ⟨rfl, by rw [zup_ne hj]⟩, by rw [zup_eq, upd_eq]; rfl, fun i hi => absurd hi (Nat.not_lt_zero _)⟩) (by decide) ?_⟩
        rintro w1 ⟨I', A', rfl, hO, hL⟩
        refine ⟨_, fr_0_4.rd, zvRd ob_77 (v_bsize tT77) (by decide) ?_⟩
        rw [List.take_of_length_le hl] at hL
        rw [hL.1]
        refine ⟨rfl, I', A', rfl, hC.io (fun p hp => hO p (by omega) (by omega)) ⟨h4.1, by rw [(hO 75 (by decide) (by decide)).2]; exact h4.2.1, fun i hi => by rw [(hO 76 (by decide) (by decide)).1]; exact h4.2.2 i hi⟩ ⟨hl, hL.1, fun i hi => hL.2 i hi⟩ (by rw [(hO 79 (by decide) (by decide)).2]; exact h6) (by rw [(hO 79 (by decide) (by decide)).2]; exact h7), zHiE.pm (fun p hp => hO p (by omega) (by omega))⟩
      · have ⟨g1, g2, a1, b1, ⟨c1, c2, c3⟩, d1, d2⟩ := hM
        have hl := zTe_len hv
        have h0 := hM.m3 s hs.1
        obtain ⟨s3, rfl, s0⟩ := hs
        refine ⟨9, _, by decide, m_tell (I0 := I) (A0 := A) h0 s0 ⟨⟨fun _ _ => rfl, fun p k hk => ?_⟩, zIf_eq I _ _, fun i hi => absurd hi (Nat.not_lt_zero _)⟩ rfl, ?_⟩
        · by_cases e : p = 98
          · subst e
            exact zIf_ne I _ (by omega)
          · show va_up I 98 _ p k = _
            rw [zup_ne e]
        · rintro v w1 ⟨rfl, I', A', rfl, ⟨k1, k2⟩, hL⟩
          refine ⟨rfl, I', A', rfl, hM.io (k1 _ (by decide)) (k1 _ (by decide)) (k2 _ _ (by decide)) ⟨b1.1, by rw [k2 _ _ (by decide)]; exact b1.2.1, fun i hi => by rw [k1 _ (by decide)]; exact b1.2.2 i hi⟩ ⟨hl, hL.1, fun i hi => hL.2 i hi⟩ ((k2 _ _ (by decide)).trans d1) ((k2 _ _ (by decide)).trans d2), zLoE.pc (fun p hp => ⟨k1 p (by omega), funext (fun k => k2 p k (Or.inl (by omega)))⟩)⟩
    · exact ⟨0, st, fun I A t hC => absurd (hC.2.1 s hs.1) hv, fun I A t hM => absurd (hM.2.1 s hs.1) hv⟩
  · refine zAc.mk (-2) st 4 4 (by decide) (by decide) (fun I A t hC => ?_) (fun I A t hM => ?_)
    · exact eX11_tell _ _ (bX11_tell_0 _ _ (zvO0 ob_0 (v_orderIn0 hC.1 hn) (by decide) (zQa.id hC)))
    · refine eX12_tell _ _ (bX12_tell_0 _ _ (zvRd ob_98 (m_ord0 hM.m3 hn) (by decide) ?_))
      rw [if_pos rfl]
      exact zQb_.id hM
end ZT3
