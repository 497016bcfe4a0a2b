/-! ===== feed ===== -/
theorem zb255 : ∀ i, i < 32 → 8 ≤ i → (Int32.toBitVec 255).getLsbD i = false := by decide
theorem zsh24 (x : Int32) : ((x.toUInt32 >>> (24 : UInt32)).toInt32) &&& 255 = (x >>> (24 : Int32)) &&& 255 := by
  apply Int32.toBitVec_inj.mp
  simp only [Int32.toBitVec_and, Int32.toBitVec_shiftRight]
  apply BitVec.eq_of_getLsbD_eq
  intro i hi
  simp only [BitVec.getLsbD_and]
  by_cases c : i < 8
  · congr 1
    simp
    rw [BitVec.getLsbD_sshiftRight, if_pos (by omega), decide_eq_false (by omega)]
    rfl
  · rw [zb255 i hi (by omega), Bool.and_false, Bool.and_false]
theorem zsh16 (x : Int32) : ((x.toUInt32 >>> (16 : UInt32)).toInt32) &&& 255 = (x >>> (16 : Int32)) &&& 255 := by
  apply Int32.toBitVec_inj.mp
  simp only [Int32.toBitVec_and, Int32.toBitVec_shiftRight]
  apply BitVec.eq_of_getLsbD_eq
  intro i hi
  simp only [BitVec.getLsbD_and]
  by_cases c : i < 8
  · congr 1
    simp
    rw [BitVec.getLsbD_sshiftRight, if_pos (by omega), decide_eq_false (by omega)]
    rfl
  · rw [zb255 i hi (by omega), Bool.and_false, Bool.and_false]
theorem zsh8 (x : Int32) : ((x.toUInt32 >>> (8 : UInt32)).toInt32) &&& 255 = (x >>> (8 : Int32)) &&& 255 := by
  apply Int32.toBitVec_inj.mp
  simp only [Int32.toBitVec_and, Int32.toBitVec_shiftRight]
  apply BitVec.eq_of_getLsbD_eq
  intro i hi
  simp only [BitVec.getLsbD_and]
  by_cases c : i < 8
  · congr 1
    simp
    rw [BitVec.getLsbD_sshiftRight, if_pos (by omega), decide_eq_false (by omega)]
    rfl
  · rw [zb255 i hi (by omega), Bool.and_false, Bool.and_false]
theorem zsh0 (x : Int32) : ((x.toUInt32 >>> (0 : UInt32)).toInt32) = x := by
  apply Int32.toBitVec_inj.mp
  simp
theorem zlow (x : Int32) : x &&& 255 = nI (x.toBitVec.toNat % 256) := by
  apply Int32.toBitVec_inj.mp
  apply BitVec.eq_of_toNat_eq
  rw [Int32.toBitVec_and, BitVec.toNat_and]
  have : (Int32.toBitVec 255).toNat = 2 ^ 8 - 1 := by decide
  rw [this, Nat.and_two_pow_sub_one_eq_mod]
  unfold nI
  simp
  omega
def zoc (x : Int32) (j : Nat) : Nat := ((x.toUInt32 >>> UInt32.ofNat (24 - 8 * j)).toInt32).toBitVec.toNat % 256
theorem zoc_lt (x : Int32) (j : Nat) : zoc x j < 256 := Nat.mod_lt _ (by decide)
theorem zoc_0 (x : Int32) : (x >>> (24 &&& 31 : Int32)) &&& 255 = nI (zoc x 0) := (zsh24 x).symm.trans (zlow _)
theorem zoc_1 (x : Int32) : (x >>> (16 &&& 31 : Int32)) &&& 255 = nI (zoc x 1) := (zsh16 x).symm.trans (zlow _)
theorem zoc_2 (x : Int32) : (x >>> (8 &&& 31 : Int32)) &&& 255 = nI (zoc x 2) := (zsh8 x).symm.trans (zlow _)
theorem zoc_3 (x : Int32) : x &&& 255 = nI (zoc x 3) := by
  rw [zlow]
  unfold zoc
  rw [show UInt32.ofNat (24 - 8 * 3) = 0 from rfl, zsh0]
def zfl (b : zBy) (ar : Nat → Int32) (k : Nat) : List Nat := (List.range b.1).map b.2 ++ (List.range k).map (fun j => zoc (ar (j / 4)) (j % 4))
theorem zfl_s (b : zBy) (ar : Nat → Int32) (k : Nat) : zfl b ar (k + 1) = zfl b ar k ++ [zoc (ar (k / 4)) (k % 4)] := by
  unfold zfl
  rw [List.range_succ, List.map_append, List.append_assoc]
  rfl
theorem zfl_len (b : zBy) (ar : Nat → Int32) (k : Nat) : (zfl b ar k).length = b.1 + k := by
  unfold zfl
  simp
theorem zfl_0 {b : zBy} (ar : Nat → Int32) {f : Nat → Int32} (h : ∀ i, i < b.1 → f i = nI (b.2 i) ∧ b.2 i < 256) : zOl (nI b.1) f (zfl b ar 0) := by
  refine ⟨by rw [zfl_len]; rfl, fun i hi => ?_⟩
  rw [zfl_len] at hi
  have e : (zfl b ar 0).getD i 0 = b.2 i := by
    unfold zfl
    simp [List.getElem?_range (show i < b.1 by omega)]
  rw [e]
  exact h i (by omega)
theorem zat_k : ∀ k, k < 20 → nI k / 4 = nI (k / 4) ∧ (((24 : Int32) - ((8 : Int32) * (nI k - nI k / 4 * 4)) : Int32).toUInt32 &&& Int32.toUInt32 31) = UInt32.ofNat (24 - 8 * (k % 4)) := by decide
section ZFd
variable {X : zX} {I A I0 A0 : zF2} {t : zW} {st : zSt} {d : Nat} {a1 a2 a3 a4 a5 : Int32} {K : zW → Prop}
theorem zkf {b : zBy} {ar : Nat → Int32} {k : Nat} {a : Int32} (e : ar k = a) (h : zKl 75 400 I0 A0 (zfl b ar (4 * k)) I A) (hd : 1 < d) (kk : ∀ I' A', zKl 75 400 I0 A0 (zfl b ar (4 * (k + 1))) I' A' → K (zWd I' A' t)) : zIs (zWd I A t) 75 0 ∧ zCallV X d MX0_putFour [.ref 75, .int a] (zWd I A t) K := by
  subst e
  have s : ∀ j, j < 4 → zfl b ar (4 * k + j + 1) = zfl b ar (4 * k + j) ++ [zoc (ar k) j] := fun j hj => by
    rw [zfl_s, show (4 * k + j) / 4 = k by omega, show (4 * k + j) % 4 = j by omega]
  have e0 : zfl b ar (4 * k + 1) = zfl b ar (4 * k) ++ [zoc (ar k) 0] := s 0 (by decide)
  have e1 : zfl b ar (4 * k + 2) = zfl b ar (4 * k + 1) ++ [zoc (ar k) 1] := s 1 (by decide)
  have e2 : zfl b ar (4 * k + 3) = zfl b ar (4 * k + 2) ++ [zoc (ar k) 2] := s 2 (by decide)
  have e3 : zfl b ar (4 * (k + 1)) = zfl b ar (4 * k + 3) ++ [zoc (ar k) 3] := s 3 (by decide)
  refine zvV tT75.1 (d1 := 1) (P := fun w1 => ∃ I' A', w1 = zWd I' A' t ∧ zKl 75 400 I0 A0 (zfl b ar (4 * (k + 1))) I' A') (eX0_putFour _ _ (bX0_putFour_0 _ _ ?_)) hd (by rintro w1 ⟨I', A', rfl, h'⟩; exact kk I' A' h')
  refine k_put tT75 h (zoc_0 _) (zoc_lt _ _) (by decide) (fun I A h => ?_)
  rw [← e0] at h
  refine k_put tT75 h (zoc_1 _) (zoc_lt _ _) (by decide) (fun I A h => ?_)
  rw [← e1] at h
  refine k_put tT75 h (zoc_2 _) (zoc_lt _ _) (by decide) (fun I A h => ?_)
  rw [← e2] at h
  refine k_put tT75 h (zoc_3 _) (zoc_lt _ _) (by decide) (fun I A h => ?_)
  rw [← e3] at h
  exact ⟨rfl, I, A, rfl, h⟩
theorem zt5 {f : Nat → Int32} {n j : Nat} (hn : n < 2 ^ 31) (hj : j < n) (v : Int32) : zsI (zWd I A (t ++ [zI n f])) (115 + t.length) (nI j) v = some (zWd I A (t ++ [zI n (upd f j v)])) := by
  have hl : (zWd I A t).length = 115 + t.length := by
    unfold zWd
    simp
  have e : ∀ t', zWd I A (t ++ t') = zWd I A t ++ t' := fun t' => by
    unfold zWd
    rw [List.append_assoc]
  have hc : (nI j).toNatClampNeg = j := nI_clamp (by omega)
  unfold zsI
  rw [e, e, List.getElem?_append_right (by omega), hl, Nat.sub_self]
  simp only [List.getElem?_cons_zero, zI]
  rw [if_neg (by rw [hc]; rintro (q | q); exact nI_pos (by omega) q; omega), hc, List.set_append_right _ _ (by omega), hl, Nat.sub_self]
  rfl
theorem zt5r {f : Nat → Int32} {n j : Nat} (hn : n < 2 ^ 31) (hj : j < n) : zaI (zWd I A (t ++ [zI n f])) (115 + t.length) (nI j) = some (f j) := by
  have hl : (zWd I A t).length = 115 + t.length := by
    unfold zWd
    simp
  have e : ∀ t', zWd I A (t ++ t') = zWd I A t ++ t' := fun t' => by
    unfold zWd
    rw [List.append_assoc]
  have hc : (nI j).toNatClampNeg = j := nI_clamp (by omega)
  unfold zaI
  rw [e, List.getElem?_append_right (by omega), hl, Nat.sub_self]
  simp only [List.getElem?_cons_zero, zI]
  rw [if_neg (by rw [hc]; rintro (q | q); exact nI_pos (by omega) q; omega), hc]
def zar (a1 a2 a3 a4 a5 : Int32) : Nat → Int32 := upd (upd (upd (upd (upd (fun _ => 0) 0 a1) 1 a2) 2 a3) 3 a4) 4 a5
/-- as zAc, but that the model makes five cells -/
def zFd (X : zX) (M N : zM) (av : List Value) (st : zSt) : Prop := ∃ r st', (∀ I A t, zCI st I A → zCall X 90 M (.ref 0 :: av) (zWd I A t) (zQa st' I A t r)) ∧ ∀ I A t, 115 + t.length < zBig → zMIv st I A → ∃ d1, d1 < 90 ∧ zEv X d1 1 5 N (.ref 98 :: av) (zWd I A t) (fun v w1 => v = some (.int r) ∧ ∃ I' A' t', w1 = zWd I' A' t' ∧ t'.length ≤ t.length + 1 ∧ zMIv st' I' A' ∧ zPC I A I' A')
theorem a_feed : zFd X MX11_feed MX12_feed [.int a1, .int a2, .int a3, .int a4, .int a5] st := by
  by_cases c : st.2.2.1.1 ≤ 380
  · refine ⟨nI (st.2.2.1.1 + 20), (st.1, st.2.1, zLB (zfl st.2.2.1 (zar a1 a2 a3 a4 a5) 20), st.2.2.2), fun I A t hC => ⟨4, _, by decide, ?_, fun _ _ q => q⟩, fun I A t ht hM => ⟨2, by decide, ?_⟩⟩
    · have ⟨h1, h2, h3, ⟨t1, t2, t3⟩, h5, h6, h7⟩ := hC
      refine eX11_feed _ _ _ _ _ _ (bX11_feed_0 _ _ _ _ _ _ ⟨_, fr_0_3.rd, zvRd ob_75 (v_bsize tT75) (by decide) ?_⟩)
      show if I 75 1 + nI 20 ≤ nI 400 then _ else _
      rw [t2, nI_add, zi_le (by omega) (by decide), if_pos (by omega)]
      have k0 : zKl 75 400 I A (zfl st.2.2.1 (zar a1 a2 a3 a4 a5) (4 * 0)) I A := by
        refine ⟨zOt.refl _ _ _, ?_⟩
        rw [List.take_of_length_le (by rw [zfl_len]; omega), t2]
        exact zfl_0 _ t3
      refine ⟨_, fr_0_3.rd, zkf (k := 0) rfl k0 (by decide) (fun I1 A1 k1 => ⟨_, fr_0_3.rd, zkf (k := 1) rfl k1 (by decide) (fun I2 A2 k2 => ⟨_, fr_0_3.rd, zkf (k := 2) rfl k2 (by decide) (fun I3 A3 k3 => ⟨_, fr_0_3.rd, zkf (k := 3) rfl k3 (by decide) (fun I4 A4 k4 => ⟨_, fr_0_3.rd, zkf (k := 4) rfl k4 (by decide) (fun I5 A5 k5 => ⟨_, fr_0_3.rd, zvRd ob_75 (v_bsize tT75) (by decide) ?_⟩)⟩)⟩)⟩)⟩)⟩
      obtain ⟨hO, hL⟩ := k5
      have hl := zfl_len st.2.2.1 (zar a1 a2 a3 a4 a5) 20
      rw [show 4 * (4 + 1) = 20 from rfl, List.take_of_length_le (by omega)] at hL
      rw [hL.1, hl]
      refine ⟨rfl, I5, A5, rfl, hC.io (fun p hp => hO p (by omega) (by omega)) ⟨?_, hL.1, fun i hi => hL.2 i hi⟩ ⟨h5.1, by rw [(hO 77 (by decide) (by decide)).2]; exact h5.2.1, fun i hi => by rw [(hO 78 (by decide) (by decide)).1]; exact h5.2.2 i hi⟩ (by rw [(hO 79 (by decide) (by decide)).2]; exact h6) (by rw [(hO 79 (by decide) (by decide)).2]; exact h7), zHiE.pm (fun p hp => hO p (by omega) (by omega))⟩
      show (zfl st.2.2.1 (zar a1 a2 a3 a4 a5) 20).length ≤ 400
      omega
    · have ⟨g1, g2, ha, ⟨b1, b2, b3⟩, hc, d1, d2⟩ := hM
      have hlw : (zWd I A t).length = 115 + t.length := by
        unfold zWd
        simp
      refine eX12_feed _ _ _ _ _ _ (bX12_feed_0 _ _ _ _ _ _ ⟨_, fi_98_5.rd, ?_⟩)
      show if I 98 5 ≤ nI 380 then _ else _
      rw [b2, zi_le (by omega) (by decide), if_pos c]
      have e : zWd I A t ++ [zI 5 (fun _ => 0)] = zWd I A (t ++ [zI 5 (fun _ => 0)]) := by
        unfold zWd
        rw [List.append_assoc]
      refine ⟨⟨rfl, by decide, by omega, by decide, by decide⟩, ?_⟩
      rw [e, hlw]
      refine ⟨_, zt5 (j := 0) (by decide) (by decide) a1, _, zt5 (j := 1) (by decide) (by decide) a2, _, zt5 (j := 2) (by decide) (by decide) a3, _, zt5 (j := 3) (by decide) (by decide) a4, _, zt5 (j := 4) (by decide) (by decide) a5, ?_⟩
      have key : ∀ k, k ≤ 20 → ∀ D : Nat → Int32, zOl (nI (st.2.2.1.1 + k)) D (zfl st.2.2.1 (zar a1 a2 a3 a4 a5) k) → zRn X 2 0 0 MX12_feed 42 [some (.ref 98), none, none, none, none, none, some (.ref (115 + t.length)), some (.int (nI k))] [] (zWd I (va_up A 102 D) (t ++ [zI 5 (zar a1 a2 a3 a4 a5)])) (fun v w1 => v = some (.int (nI (st.2.2.1.1 + 20))) ∧ ∃ I' A' t', w1 = zWd I' A' t' ∧ t'.length ≤ t.length + 1 ∧ zMIv (st.1, st.2.1, zLB (zfl st.2.2.1 (zar a1 a2 a3 a4 a5) 20), st.2.2.2) I' A' ∧ zPC I A I' A') := by
        refine zdown ?_ ?_
        · intro D hD
          refine bX12_feed_42 _ _ _ ?_
          rw [if_pos (by decide)]
          have hl := zfl_len st.2.2.1 (zar a1 a2 a3 a4 a5) 20
          refine ⟨_, fi_98_5.rd, _, fi_98_5.wr, _, fi_98_5.rd, ?_⟩
          have e2 : I 98 5 + 20 = nI (st.2.2.1.1 + 20) := by
            rw [b2]
            exact nI_add _ _
          rw [zup_eq, upd_eq, e2]
          refine ⟨rfl, _, _, _, rfl, by rw [List.length_append]; exact Nat.le_refl _, ?_, zLoE.pc (((zLoE.refl I A).a (by decide)).f (by decide))⟩
          refine hM.io (zup_ne (by decide)) (zup_ne (by decide)) (zIf_ne I _ (by decide)) ⟨?_, ?_, fun i hi => ?_⟩ ⟨hc.1, (zIf_ne I _ (by decide)).trans hc.2.1, fun i hi => by rw [zup_ne (by decide)]; exact hc.2.2 i hi⟩ ((zIf_ne I _ (by decide)).trans d1) ((zIf_ne I _ (by decide)).trans d2)
          · show (zfl st.2.2.1 (zar a1 a2 a3 a4 a5) 20).length ≤ 400
            omega
          · refine (zIf_eq I _ _).trans ?_
            show _ = nI (zfl st.2.2.1 (zar a1 a2 a3 a4 a5) 20).length
            rw [hl]
          · rw [zup_eq]
            exact hD.2 i hi
        · intro k hk ih D hD
          refine bX12_feed_42 _ _ _ ?_
          show if nI 20 ≤ nI k then _ else _
          rw [zi_le (by decide) (by omega), if_neg (by omega)]
          obtain ⟨q1, q2⟩ := zat_k k hk
          refine ⟨_, fr_98_4.rd, _, fi_98_5.rd, zar a1 a2 a3 a4 a5 (k / 4), ?_, ?_⟩
          · rw [q1]
            exact zt5r (by decide) (by omega)
          · rw [q2, b2, nI_add, zlow]
            have hl := zfl_len st.2.2.1 (zar a1 a2 a3 a4 a5) k
            refine ⟨_, ar_102.wr (by omega), ?_⟩
            rw [zup_eq, bx_uu, nI_1]
            refine ih _ ?_
            have := hD.snoc (zoc_lt (zar a1 a2 a3 a4 a5 (k / 4)) (k % 4))
            rw [← zfl_s, hl, nI_1] at this
            exact this
      have k0 := key 0 (by decide) (A 102) (zfl_0 _ b3)
      rw [zup_self] at k0
      exact k0
  · refine ⟨-1, st, fun I A t hC => ⟨4, _, by decide, ?_, fun _ _ q => q⟩, fun I A t ht hM => ⟨2, by decide, ?_⟩⟩
    · have ⟨h1, h2, h3, ⟨t1, t2, t3⟩, h5, h6, h7⟩ := hC
      refine eX11_feed _ _ _ _ _ _ (bX11_feed_0 _ _ _ _ _ _ ⟨_, fr_0_3.rd, zvRd ob_75 (v_bsize tT75) (by decide) ?_⟩)
      show if I 75 1 + nI 20 ≤ nI 400 then _ else _
      rw [t2, nI_add, zi_le (by omega) (by decide), if_neg (by omega)]
      exact zQa.id hC
    · have ⟨g1, g2, ha, ⟨b1, b2, b3⟩, hc, d1, d2⟩ := hM
      refine eX12_feed _ _ _ _ _ _ (bX12_feed_0 _ _ _ _ _ _ ⟨_, fi_98_5.rd, ?_⟩)
      show if I 98 5 ≤ nI 380 then _ else _
      rw [b2, zi_le (by omega) (by decide), if_neg c]
      exact ⟨rfl, I, A, t, rfl, by omega, hM, fun _ h => h⟩
end ZFd
