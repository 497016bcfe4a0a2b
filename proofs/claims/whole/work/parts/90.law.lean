/-! ===== the law's own blocks (wip/gen/blocks.py) ===== -/
def zCallB (X : zX) (d kc ks : Nat) (N : zM) (av : List Value) (w : zW) (K : Int32 → Nat → Nat → zW → Prop) : Prop := ∃ d1 c1 s1 Q1, d1 < d ∧ c1 ≤ kc ∧ s1 ≤ ks ∧ zEv X d1 c1 s1 N av w Q1 ∧ ∀ v w1, Q1 v w1 → ∃ x, v = some (.int x) ∧ K x (kc - c1) (ks - s1) w1
section ZLw
variable {X : zX} {d kc ks : Nat} {M : zM} {pc : Nat} {L : zL} {st stk : List Value} {w : zW} {Q : Option Value → zW → Prop}
theorem zq_VB {N : zM} {ci n idx p0 : Nat} {As : List Value} {K : Int32 → Nat → Nat → zW → Prop} (hM : zMV (zMy M).cls idx N ci n) (hd : decode (zMc M) pc = .ok (.invokevirtual idx, 3)) (hn : As.length = n) (hs : As.reverse ++ .ref p0 :: st = stk) (hW : (st.map fun v => v.category).sum ≤ 8) (h : zIs w p0 ci ∧ zCallB X d kc ks N (.ref p0 :: As) w K) (k : ∀ x kc1 ks1 w1, K x kc1 ks1 w1 → zRn X d kc1 ks1 M (pc + 3) L (.int x :: st) w1 Q) : zRn X d kc ks M pc L stk w Q := by
  subst hs
  obtain ⟨⟨fs, hp⟩, d1, c1, s1, Q1, h1, h2, h3, h4, h5⟩ := h
  have := z_callV (kc := kc - c1) (ks := ks - s1) (Q := Q) (L := L) hM hd hp hn hW h1 h4 (fun v w1 q => by
    obtain ⟨x, rfl, q'⟩ := h5 v w1 q
    exact k x _ _ w1 q')
  rw [Nat.sub_add_cancel h2, Nat.sub_add_cancel h3] at this
  exact this
end ZLw
set_option maxRecDepth 100000 in
set_option maxHeartbeats 4000000 in
theorem bL_law_0 {X : zX} {d kc ks : Nat} {w : zW} {Q : Option Value → zW → Prop}
    (h : (w.length < zBig ∧ 1 ≤ kc ∧ 11 ≤ ks) ∧ (zCallC X d (kc - 1) (ks - 11) MX11_init [.ref w.length] (w ++ [zO 10 [.null, .null, .null, .null, .null, .null, .null, .null, .null, .null, .null]]) (fun k2 s3 w1 => (w1.length < zBig ∧ 1 ≤ k2 ∧ 29 ≤ s3) ∧ (zCallC X d (k2 - 1) (s3 - 29) MX12_init [.ref w1.length] (w1 ++ [zO 11 [.null, .null, .null, .int 0, .null, .int 0, .int 0, .int 0, .int 0, .int 0, .int 0, .int 0, .int 0, .null, .null, .null, .int 0, .null, .null, .null, .null, .int 0, .null, .int 0, .null, .null, .null, .null, .int 0]]) (fun k5 s6 w4 => zRn X d k5 s6 ML_law 18 [some (.ref zSc), some (.ref w.length), some (.ref w1.length), some (.int 0)] [] w4 Q))))) :
    zRn X d kc ks ML_law 0 [some (.ref zSc), none, none, none] [] w Q := by
  refine zq_new n_L_7 dL_law_0 h.1 ?_
  have h := h.2
  refine z_dup dL_law_3 rfl ?_
  refine zq_IC (N := MX11_init) (As := []) m_L_9 dL_law_4 rfl rfl (Nat.le_of_ble_eq_true rfl) h (fun k2 s3 w1 h => ?_)
  refine z_astore_n (i := 1) dL_law_7 rfl (by decide) rfl ?_
  refine zq_new n_L_10 dL_law_8 h.1 ?_
  have h := h.2
  refine z_dup dL_law_11 rfl ?_
  refine zq_IC (N := MX12_init) (As := []) m_L_12 dL_law_12 rfl rfl (Nat.le_of_ble_eq_true rfl) h (fun k5 s6 w4 h => ?_)
  refine z_astore_n (i := 2) dL_law_15 rfl (by decide) rfl ?_
  refine z_iconst 0 dL_law_16 rfl ?_
  refine z_istore_n (i := 3) dL_law_17 rfl (by decide) rfl ?_
  exact h
set_option maxRecDepth 100000 in
set_option maxHeartbeats 4000000 in
theorem bL_law_18 {X : zX} {d kc ks : Nat} {w : zW} {Q : Option Value → zW → Prop} (v1 : Nat) (v2 : Nat) (v3 : Int32)
    (h : if ((nI (zsL X)) - 6) < v3 then (Q (some (.int 1)) w) else (vp_in v3 (zsL X) ∧ ((((zsx X (v3).toNatClampNeg) &&& 63) = 0 → (zRn X d kc ks ML_law 220 [some (.ref zSc), some (.ref v1), some (.ref v2), some (.int v3)] [] w Q)) ∧ (((zsx X (v3).toNatClampNeg) &&& 63) = 1 → (zRn X d kc ks ML_law 283 [some (.ref zSc), some (.ref v1), some (.ref v2), some (.int v3)] [] w Q)) ∧ (((zsx X (v3).toNatClampNeg) &&& 63) = 2 → (zRn X d kc ks ML_law 306 [some (.ref zSc), some (.ref v1), some (.ref v2), some (.int v3)] [] w Q)) ∧ (((zsx X (v3).toNatClampNeg) &&& 63) = 3 → (zRn X d kc ks ML_law 329 [some (.ref zSc), some (.ref v1), some (.ref v2), some (.int v3)] [] w Q)) ∧ (((zsx X (v3).toNatClampNeg) &&& 63) = 4 → (zRn X d kc ks ML_law 352 [some (.ref zSc), some (.ref v1), some (.ref v2), some (.int v3)] [] w Q)) ∧ (((zsx X (v3).toNatClampNeg) &&& 63) = 5 → (zRn X d kc ks ML_law 375 [some (.ref zSc), some (.ref v1), some (.ref v2), some (.int v3)] [] w Q)) ∧ (((zsx X (v3).toNatClampNeg) &&& 63) = 6 → (zRn X d kc ks ML_law 408 [some (.ref zSc), some (.ref v1), some (.ref v2), some (.int v3)] [] w Q)) ∧ (((zsx X (v3).toNatClampNeg) &&& 63) = 7 → (zRn X d kc ks ML_law 451 [some (.ref zSc), some (.ref v1), some (.ref v2), some (.int v3)] [] w Q)) ∧ (((zsx X (v3).toNatClampNeg) &&& 63) = 8 → (zRn X d kc ks ML_law 484 [some (.ref zSc), some (.ref v1), some (.ref v2), some (.int v3)] [] w Q)) ∧ (((zsx X (v3).toNatClampNeg) &&& 63) = 9 → (zRn X d kc ks ML_law 517 [some (.ref zSc), some (.ref v1), some (.ref v2), some (.int v3)] [] w Q)) ∧ (((zsx X (v3).toNatClampNeg) &&& 63) = 10 → (zRn X d kc ks ML_law 540 [some (.ref zSc), some (.ref v1), some (.ref v2), some (.int v3)] [] w Q)) ∧ (((zsx X (v3).toNatClampNeg) &&& 63) = 11 → (zRn X d kc ks ML_law 573 [some (.ref zSc), some (.ref v1), some (.ref v2), some (.int v3)] [] w Q)) ∧ (((zsx X (v3).toNatClampNeg) &&& 63) = 12 → (zRn X d kc ks ML_law 596 [some (.ref zSc), some (.ref v1), some (.ref v2), some (.int v3)] [] w Q)) ∧ (((zsx X (v3).toNatClampNeg) &&& 63) = 13 → (zRn X d kc ks ML_law 639 [some (.ref zSc), some (.ref v1), some (.ref v2), some (.int v3)] [] w Q)) ∧ (((zsx X (v3).toNatClampNeg) &&& 63) = 14 → (zRn X d kc ks ML_law 672 [some (.ref zSc), some (.ref v1), some (.ref v2), some (.int v3)] [] w Q)) ∧ (((zsx X (v3).toNatClampNeg) &&& 63) = 15 → (zRn X d kc ks ML_law 715 [some (.ref zSc), some (.ref v1), some (.ref v2), some (.int v3)] [] w Q)) ∧ (((zsx X (v3).toNatClampNeg) &&& 63) = 16 → (zRn X d kc ks ML_law 748 [some (.ref zSc), some (.ref v1), some (.ref v2), some (.int v3)] [] w Q)) ∧ (((zsx X (v3).toNatClampNeg) &&& 63) = 17 → (zRn X d kc ks ML_law 791 [some (.ref zSc), some (.ref v1), some (.ref v2), some (.int v3)] [] w Q)) ∧ (((zsx X (v3).toNatClampNeg) &&& 63) = 18 → (zRn X d kc ks ML_law 834 [some (.ref zSc), some (.ref v1), some (.ref v2), some (.int v3)] [] w Q)) ∧ (((zsx X (v3).toNatClampNeg) &&& 63) = 19 → (zRn X d kc ks ML_law 877 [some (.ref zSc), some (.ref v1), some (.ref v2), some (.int v3)] [] w Q)) ∧ (((zsx X (v3).toNatClampNeg) &&& 63) = 20 → (zRn X d kc ks ML_law 910 [some (.ref zSc), some (.ref v1), some (.ref v2), some (.int v3)] [] w Q)) ∧ (((zsx X (v3).toNatClampNeg) &&& 63) = 21 → (zRn X d kc ks ML_law 943 [some (.ref zSc), some (.ref v1), some (.ref v2), some (.int v3)] [] w Q)) ∧ (((zsx X (v3).toNatClampNeg) &&& 63) = 22 → (zRn X d kc ks ML_law 986 [some (.ref zSc), some (.ref v1), some (.ref v2), some (.int v3)] [] w Q)) ∧ (((zsx X (v3).toNatClampNeg) &&& 63) = 23 → (zRn X d kc ks ML_law 1019 [some (.ref zSc), some (.ref v1), some (.ref v2), some (.int v3)] [] w Q)) ∧ (((zsx X (v3).toNatClampNeg) &&& 63) = 24 → (zRn X d kc ks ML_law 1052 [some (.ref zSc), some (.ref v1), some (.ref v2), some (.int v3)] [] w Q)) ∧ (((zsx X (v3).toNatClampNeg) &&& 63) = 25 → (zRn X d kc ks ML_law 1085 [some (.ref zSc), some (.ref v1), some (.ref v2), some (.int v3)] [] w Q)) ∧ (((zsx X (v3).toNatClampNeg) &&& 63) = 26 → (zRn X d kc ks ML_law 1118 [some (.ref zSc), some (.ref v1), some (.ref v2), some (.int v3)] [] w Q)) ∧ (((zsx X (v3).toNatClampNeg) &&& 63) = 27 → (zRn X d kc ks ML_law 1151 [some (.ref zSc), some (.ref v1), some (.ref v2), some (.int v3)] [] w Q)) ∧ (((zsx X (v3).toNatClampNeg) &&& 63) = 28 → (zRn X d kc ks ML_law 1194 [some (.ref zSc), some (.ref v1), some (.ref v2), some (.int v3)] [] w Q)) ∧ (((zsx X (v3).toNatClampNeg) &&& 63) = 29 → (zRn X d kc ks ML_law 1227 [some (.ref zSc), some (.ref v1), some (.ref v2), some (.int v3)] [] w Q)) ∧ (((zsx X (v3).toNatClampNeg) &&& 63) = 30 → (zRn X d kc ks ML_law 1270 [some (.ref zSc), some (.ref v1), some (.ref v2), some (.int v3)] [] w Q)) ∧ (((zsx X (v3).toNatClampNeg) &&& 63) = 31 → (zRn X d kc ks ML_law 1303 [some (.ref zSc), some (.ref v1), some (.ref v2), some (.int v3)] [] w Q)) ∧ (((zsx X (v3).toNatClampNeg) &&& 63) = 32 → (zRn X d kc ks ML_law 1336 [some (.ref zSc), some (.ref v1), some (.ref v2), some (.int v3)] [] w Q)) ∧ (((zsx X (v3).toNatClampNeg) &&& 63) = 33 → (zRn X d kc ks ML_law 1379 [some (.ref zSc), some (.ref v1), some (.ref v2), some (.int v3)] [] w Q)) ∧ (((zsx X (v3).toNatClampNeg) &&& 63) = 34 → (zRn X d kc ks ML_law 1422 [some (.ref zSc), some (.ref v1), some (.ref v2), some (.int v3)] [] w Q)) ∧ (((zsx X (v3).toNatClampNeg) &&& 63) = 35 → (zRn X d kc ks ML_law 1445 [some (.ref zSc), some (.ref v1), some (.ref v2), some (.int v3)] [] w Q)) ∧ (((zsx X (v3).toNatClampNeg) &&& 63) = 36 → (zRn X d kc ks ML_law 1478 [some (.ref zSc), some (.ref v1), some (.ref v2), some (.int v3)] [] w Q)) ∧ (((zsx X (v3).toNatClampNeg) &&& 63) = 37 → (zRn X d kc ks ML_law 1531 [some (.ref zSc), some (.ref v1), some (.ref v2), some (.int v3)] [] w Q)) ∧ (((zsx X (v3).toNatClampNeg) &&& 63) = 38 → (zRn X d kc ks ML_law 1564 [some (.ref zSc), some (.ref v1), some (.ref v2), some (.int v3)] [] w Q)) ∧ (((zsx X (v3).toNatClampNeg) &&& 63) = 39 → (zRn X d kc ks ML_law 1587 [some (.ref zSc), some (.ref v1), some (.ref v2), some (.int v3)] [] w Q)) ∧ (((zsx X (v3).toNatClampNeg) &&& 63) = 40 → (zRn X d kc ks ML_law 1610 [some (.ref zSc), some (.ref v1), some (.ref v2), some (.int v3)] [] w Q)) ∧ (((zsx X (v3).toNatClampNeg) &&& 63) = 41 → (zRn X d kc ks ML_law 1623 [some (.ref zSc), some (.ref v1), some (.ref v2), some (.int v3)] [] w Q)) ∧ (((zsx X (v3).toNatClampNeg) &&& 63) = 42 → (zRn X d kc ks ML_law 1646 [some (.ref zSc), some (.ref v1), some (.ref v2), some (.int v3)] [] w Q)) ∧ (¬ (0 ≤ ((zsx X (v3).toNatClampNeg) &&& 63) ∧ ((zsx X (v3).toNatClampNeg) &&& 63) < 43) → (zRn X d kc ks ML_law 1669 [some (.ref zSc), some (.ref v1), some (.ref v2), some (.int v3)] [] w Q))))) :
    zRn X d kc ks ML_law 18 [some (.ref zSc), some (.ref v1), some (.ref v2), some (.int v3)] [] w Q := by
  refine z_iload_n v3 dL_law_18 rfl rfl ?_
  refine z_aload_n zSc dL_law_19 rfl rfl ?_
  refine z_slen dL_law_20 ?_
  refine z_bipush 6 dL_law_21 rfl ?_
  refine z_isub dL_law_23 ?_
  refine z_icmp_gt 1675 dL_law_24 rfl (fun hc => ?_) (fun hc => ?_)
  · rw [if_pos hc] at h
    refine z_iconst 1 dL_law_1675 rfl ?_
    exact z_ireturn .boolean dL_law_1676 rfl rfl h
  · rw [if_neg hc] at h
    refine z_aload_n zSc dL_law_27 rfl rfl ?_
    refine z_iload_n v3 dL_law_28 rfl rfl ?_
    refine z_sld dL_law_29 h.1 ?_
    have h := h.2
    refine z_bipush 63 dL_law_30 rfl ?_
    refine z_iand dL_law_32 ?_
    rcases pk_ix ((zsx X (v3).toNatClampNeg) &&& 63) (n := 43) (by decide) with hx | hx | ⟨j, hj, hx⟩
    · refine z_tableOut 1669 dL_law_33 (zsw_lo hx) rfl ?_
      have h := h.2.2.2.2.2.2.2.2.2.2.2.2.2.2.2.2.2.2.2.2.2.2.2.2.2.2.2.2.2.2.2.2.2.2.2.2.2.2.2.2.2.2.2 (fun q => absurd hx (Int32.not_lt.mpr q.1))
      exact h
    · refine z_tableOut 1669 dL_law_33 (zsw_hi (n := 43) (by decide) rfl hx) rfl ?_
      have h := h.2.2.2.2.2.2.2.2.2.2.2.2.2.2.2.2.2.2.2.2.2.2.2.2.2.2.2.2.2.2.2.2.2.2.2.2.2.2.2.2.2.2.2 (fun q => absurd q.2 (Int32.not_lt.mpr hx))
      exact h
    · rcases (show j = 0 ∨ j = 1 ∨ j = 2 ∨ j = 3 ∨ j = 4 ∨ j = 5 ∨ j = 6 ∨ j = 7 ∨ j = 8 ∨ j = 9 ∨ j = 10 ∨ j = 11 ∨ j = 12 ∨ j = 13 ∨ j = 14 ∨ j = 15 ∨ j = 16 ∨ j = 17 ∨ j = 18 ∨ j = 19 ∨ j = 20 ∨ j = 21 ∨ j = 22 ∨ j = 23 ∨ j = 24 ∨ j = 25 ∨ j = 26 ∨ j = 27 ∨ j = 28 ∨ j = 29 ∨ j = 30 ∨ j = 31 ∨ j = 32 ∨ j = 33 ∨ j = 34 ∨ j = 35 ∨ j = 36 ∨ j = 37 ∨ j = 38 ∨ j = 39 ∨ j = 40 ∨ j = 41 ∨ j = 42 by omega) with rfl | rfl | rfl | rfl | rfl | rfl | rfl | rfl | rfl | rfl | rfl | rfl | rfl | rfl | rfl | rfl | rfl | rfl | rfl | rfl | rfl | rfl | rfl | rfl | rfl | rfl | rfl | rfl | rfl | rfl | rfl | rfl | rfl | rfl | rfl | rfl | rfl | rfl | rfl | rfl | rfl | rfl | rfl
      · refine z_tableIn 220 dL_law_33 (by rw [hx]; decide) (by rw [hx]; decide) (by rw [hx]; rfl) rfl ?_
        have h := h.1 hx
        exact h
      · refine z_tableIn 283 dL_law_33 (by rw [hx]; decide) (by rw [hx]; decide) (by rw [hx]; rfl) rfl ?_
        have h := h.2.1 hx
        exact h
      · refine z_tableIn 306 dL_law_33 (by rw [hx]; decide) (by rw [hx]; decide) (by rw [hx]; rfl) rfl ?_
        have h := h.2.2.1 hx
        exact h
      · refine z_tableIn 329 dL_law_33 (by rw [hx]; decide) (by rw [hx]; decide) (by rw [hx]; rfl) rfl ?_
        have h := h.2.2.2.1 hx
        exact h
      · refine z_tableIn 352 dL_law_33 (by rw [hx]; decide) (by rw [hx]; decide) (by rw [hx]; rfl) rfl ?_
        have h := h.2.2.2.2.1 hx
        exact h
      · refine z_tableIn 375 dL_law_33 (by rw [hx]; decide) (by rw [hx]; decide) (by rw [hx]; rfl) rfl ?_
        have h := h.2.2.2.2.2.1 hx
        exact h
      · refine z_tableIn 408 dL_law_33 (by rw [hx]; decide) (by rw [hx]; decide) (by rw [hx]; rfl) rfl ?_
        have h := h.2.2.2.2.2.2.1 hx
        exact h
      · refine z_tableIn 451 dL_law_33 (by rw [hx]; decide) (by rw [hx]; decide) (by rw [hx]; rfl) rfl ?_
        have h := h.2.2.2.2.2.2.2.1 hx
        exact h
      · refine z_tableIn 484 dL_law_33 (by rw [hx]; decide) (by rw [hx]; decide) (by rw [hx]; rfl) rfl ?_
        have h := h.2.2.2.2.2.2.2.2.1 hx
        exact h
      · refine z_tableIn 517 dL_law_33 (by rw [hx]; decide) (by rw [hx]; decide) (by rw [hx]; rfl) rfl ?_
        have h := h.2.2.2.2.2.2.2.2.2.1 hx
        exact h
      · refine z_tableIn 540 dL_law_33 (by rw [hx]; decide) (by rw [hx]; decide) (by rw [hx]; rfl) rfl ?_
        have h := h.2.2.2.2.2.2.2.2.2.2.1 hx
        exact h
      · refine z_tableIn 573 dL_law_33 (by rw [hx]; decide) (by rw [hx]; decide) (by rw [hx]; rfl) rfl ?_
        have h := h.2.2.2.2.2.2.2.2.2.2.2.1 hx
        exact h
      · refine z_tableIn 596 dL_law_33 (by rw [hx]; decide) (by rw [hx]; decide) (by rw [hx]; rfl) rfl ?_
        have h := h.2.2.2.2.2.2.2.2.2.2.2.2.1 hx
        exact h
      · refine z_tableIn 639 dL_law_33 (by rw [hx]; decide) (by rw [hx]; decide) (by rw [hx]; rfl) rfl ?_
        have h := h.2.2.2.2.2.2.2.2.2.2.2.2.2.1 hx
        exact h
      · refine z_tableIn 672 dL_law_33 (by rw [hx]; decide) (by rw [hx]; decide) (by rw [hx]; rfl) rfl ?_
        have h := h.2.2.2.2.2.2.2.2.2.2.2.2.2.2.1 hx
        exact h
      · refine z_tableIn 715 dL_law_33 (by rw [hx]; decide) (by rw [hx]; decide) (by rw [hx]; rfl) rfl ?_
        have h := h.2.2.2.2.2.2.2.2.2.2.2.2.2.2.2.1 hx
        exact h
      · refine z_tableIn 748 dL_law_33 (by rw [hx]; decide) (by rw [hx]; decide) (by rw [hx]; rfl) rfl ?_
        have h := h.2.2.2.2.2.2.2.2.2.2.2.2.2.2.2.2.1 hx
        exact h
      · refine z_tableIn 791 dL_law_33 (by rw [hx]; decide) (by rw [hx]; decide) (by rw [hx]; rfl) rfl ?_
        have h := h.2.2.2.2.2.2.2.2.2.2.2.2.2.2.2.2.2.1 hx
        exact h
      · refine z_tableIn 834 dL_law_33 (by rw [hx]; decide) (by rw [hx]; decide) (by rw [hx]; rfl) rfl ?_
        have h := h.2.2.2.2.2.2.2.2.2.2.2.2.2.2.2.2.2.2.1 hx
        exact h
      · refine z_tableIn 877 dL_law_33 (by rw [hx]; decide) (by rw [hx]; decide) (by rw [hx]; rfl) rfl ?_
        have h := h.2.2.2.2.2.2.2.2.2.2.2.2.2.2.2.2.2.2.2.1 hx
        exact h
      · refine z_tableIn 910 dL_law_33 (by rw [hx]; decide) (by rw [hx]; decide) (by rw [hx]; rfl) rfl ?_
        have h := h.2.2.2.2.2.2.2.2.2.2.2.2.2.2.2.2.2.2.2.2.1 hx
        exact h
      · refine z_tableIn 943 dL_law_33 (by rw [hx]; decide) (by rw [hx]; decide) (by rw [hx]; rfl) rfl ?_
        have h := h.2.2.2.2.2.2.2.2.2.2.2.2.2.2.2.2.2.2.2.2.2.1 hx
        exact h
      · refine z_tableIn 986 dL_law_33 (by rw [hx]; decide) (by rw [hx]; decide) (by rw [hx]; rfl) rfl ?_
        have h := h.2.2.2.2.2.2.2.2.2.2.2.2.2.2.2.2.2.2.2.2.2.2.1 hx
        exact h
      · refine z_tableIn 1019 dL_law_33 (by rw [hx]; decide) (by rw [hx]; decide) (by rw [hx]; rfl) rfl ?_
        have h := h.2.2.2.2.2.2.2.2.2.2.2.2.2.2.2.2.2.2.2.2.2.2.2.1 hx
        exact h
      · refine z_tableIn 1052 dL_law_33 (by rw [hx]; decide) (by rw [hx]; decide) (by rw [hx]; rfl) rfl ?_
        have h := h.2.2.2.2.2.2.2.2.2.2.2.2.2.2.2.2.2.2.2.2.2.2.2.2.1 hx
        exact h
      · refine z_tableIn 1085 dL_law_33 (by rw [hx]; decide) (by rw [hx]; decide) (by rw [hx]; rfl) rfl ?_
        have h := h.2.2.2.2.2.2.2.2.2.2.2.2.2.2.2.2.2.2.2.2.2.2.2.2.2.1 hx
        exact h
      · refine z_tableIn 1118 dL_law_33 (by rw [hx]; decide) (by rw [hx]; decide) (by rw [hx]; rfl) rfl ?_
        have h := h.2.2.2.2.2.2.2.2.2.2.2.2.2.2.2.2.2.2.2.2.2.2.2.2.2.2.1 hx
        exact h
      · refine z_tableIn 1151 dL_law_33 (by rw [hx]; decide) (by rw [hx]; decide) (by rw [hx]; rfl) rfl ?_
        have h := h.2.2.2.2.2.2.2.2.2.2.2.2.2.2.2.2.2.2.2.2.2.2.2.2.2.2.2.1 hx
        exact h
      · refine z_tableIn 1194 dL_law_33 (by rw [hx]; decide) (by rw [hx]; decide) (by rw [hx]; rfl) rfl ?_
        have h := h.2.2.2.2.2.2.2.2.2.2.2.2.2.2.2.2.2.2.2.2.2.2.2.2.2.2.2.2.1 hx
        exact h
      · refine z_tableIn 1227 dL_law_33 (by rw [hx]; decide) (by rw [hx]; decide) (by rw [hx]; rfl) rfl ?_
        have h := h.2.2.2.2.2.2.2.2.2.2.2.2.2.2.2.2.2.2.2.2.2.2.2.2.2.2.2.2.2.1 hx
        exact h
      · refine z_tableIn 1270 dL_law_33 (by rw [hx]; decide) (by rw [hx]; decide) (by rw [hx]; rfl) rfl ?_
        have h := h.2.2.2.2.2.2.2.2.2.2.2.2.2.2.2.2.2.2.2.2.2.2.2.2.2.2.2.2.2.2.1 hx
        exact h
      · refine z_tableIn 1303 dL_law_33 (by rw [hx]; decide) (by rw [hx]; decide) (by rw [hx]; rfl) rfl ?_
        have h := h.2.2.2.2.2.2.2.2.2.2.2.2.2.2.2.2.2.2.2.2.2.2.2.2.2.2.2.2.2.2.2.1 hx
        exact h
      · refine z_tableIn 1336 dL_law_33 (by rw [hx]; decide) (by rw [hx]; decide) (by rw [hx]; rfl) rfl ?_
        have h := h.2.2.2.2.2.2.2.2.2.2.2.2.2.2.2.2.2.2.2.2.2.2.2.2.2.2.2.2.2.2.2.2.1 hx
        exact h
      · refine z_tableIn 1379 dL_law_33 (by rw [hx]; decide) (by rw [hx]; decide) (by rw [hx]; rfl) rfl ?_
        have h := h.2.2.2.2.2.2.2.2.2.2.2.2.2.2.2.2.2.2.2.2.2.2.2.2.2.2.2.2.2.2.2.2.2.1 hx
        exact h
      · refine z_tableIn 1422 dL_law_33 (by rw [hx]; decide) (by rw [hx]; decide) (by rw [hx]; rfl) rfl ?_
        have h := h.2.2.2.2.2.2.2.2.2.2.2.2.2.2.2.2.2.2.2.2.2.2.2.2.2.2.2.2.2.2.2.2.2.2.1 hx
        exact h
      · refine z_tableIn 1445 dL_law_33 (by rw [hx]; decide) (by rw [hx]; decide) (by rw [hx]; rfl) rfl ?_
        have h := h.2.2.2.2.2.2.2.2.2.2.2.2.2.2.2.2.2.2.2.2.2.2.2.2.2.2.2.2.2.2.2.2.2.2.2.1 hx
        exact h
      · refine z_tableIn 1478 dL_law_33 (by rw [hx]; decide) (by rw [hx]; decide) (by rw [hx]; rfl) rfl ?_
        have h := h.2.2.2.2.2.2.2.2.2.2.2.2.2.2.2.2.2.2.2.2.2.2.2.2.2.2.2.2.2.2.2.2.2.2.2.2.1 hx
        exact h
      · refine z_tableIn 1531 dL_law_33 (by rw [hx]; decide) (by rw [hx]; decide) (by rw [hx]; rfl) rfl ?_
        have h := h.2.2.2.2.2.2.2.2.2.2.2.2.2.2.2.2.2.2.2.2.2.2.2.2.2.2.2.2.2.2.2.2.2.2.2.2.2.1 hx
        exact h
      · refine z_tableIn 1564 dL_law_33 (by rw [hx]; decide) (by rw [hx]; decide) (by rw [hx]; rfl) rfl ?_
        have h := h.2.2.2.2.2.2.2.2.2.2.2.2.2.2.2.2.2.2.2.2.2.2.2.2.2.2.2.2.2.2.2.2.2.2.2.2.2.2.1 hx
        exact h
      · refine z_tableIn 1587 dL_law_33 (by rw [hx]; decide) (by rw [hx]; decide) (by rw [hx]; rfl) rfl ?_
        have h := h.2.2.2.2.2.2.2.2.2.2.2.2.2.2.2.2.2.2.2.2.2.2.2.2.2.2.2.2.2.2.2.2.2.2.2.2.2.2.2.1 hx
        exact h
      · refine z_tableIn 1610 dL_law_33 (by rw [hx]; decide) (by rw [hx]; decide) (by rw [hx]; rfl) rfl ?_
        have h := h.2.2.2.2.2.2.2.2.2.2.2.2.2.2.2.2.2.2.2.2.2.2.2.2.2.2.2.2.2.2.2.2.2.2.2.2.2.2.2.2.1 hx
        exact h
      · refine z_tableIn 1623 dL_law_33 (by rw [hx]; decide) (by rw [hx]; decide) (by rw [hx]; rfl) rfl ?_
        have h := h.2.2.2.2.2.2.2.2.2.2.2.2.2.2.2.2.2.2.2.2.2.2.2.2.2.2.2.2.2.2.2.2.2.2.2.2.2.2.2.2.2.1 hx
        exact h
      · refine z_tableIn 1646 dL_law_33 (by rw [hx]; decide) (by rw [hx]; decide) (by rw [hx]; rfl) rfl ?_
        have h := h.2.2.2.2.2.2.2.2.2.2.2.2.2.2.2.2.2.2.2.2.2.2.2.2.2.2.2.2.2.2.2.2.2.2.2.2.2.2.2.2.2.2.1 hx
        exact h
set_option maxRecDepth 100000 in
set_option maxHeartbeats 4000000 in
theorem bL_law_220 {X : zX} {d kc ks : Nat} {w : zW} {Q : Option Value → zW → Prop} (v1 : Nat) (v2 : Nat) (v3 : Int32)
    (h : vp_in (v3 + 1) (zsL X) ∧ (vp_in (v3 + 2) (zsL X) ∧ (vp_in (v3 + 3) (zsL X) ∧ (vp_in (v3 + 4) (zsL X) ∧ (vp_in (v3 + 5) (zsL X) ∧ (zIs w v1 10 ∧ zCallI X d MX11_feed [.ref v1, .int (zsx X (v3 + 1).toNatClampNeg), .int (zsx X (v3 + 2).toNatClampNeg), .int (zsx X (v3 + 3).toNatClampNeg), .int (zsx X (v3 + 4).toNatClampNeg), .int (zsx X (v3 + 5).toNatClampNeg)] w (fun x7 w6 => vp_in (v3 + 1) (zsL X) ∧ (vp_in (v3 + 2) (zsL X) ∧ (vp_in (v3 + 3) (zsL X) ∧ (vp_in (v3 + 4) (zsL X) ∧ (vp_in (v3 + 5) (zsL X) ∧ (zIs w6 v2 11 ∧ zCallB X d kc ks MX12_feed [.ref v2, .int (zsx X (v3 + 1).toNatClampNeg), .int (zsx X (v3 + 2).toNatClampNeg), .int (zsx X (v3 + 3).toNatClampNeg), .int (zsx X (v3 + 4).toNatClampNeg), .int (zsx X (v3 + 5).toNatClampNeg)] w6 (fun x14 k15 s16 w13 => if x7 = x14 then (zRn X d k15 s16 ML_law 1669 [some (.ref zSc), some (.ref v1), some (.ref v2), some (.int v3)] [] w13 Q) else (Q (some (.int 0)) w13)))))))))))))) :
    zRn X d kc ks ML_law 220 [some (.ref zSc), some (.ref v1), some (.ref v2), some (.int v3)] [] w Q := by
  refine z_aload_n v1 dL_law_220 rfl rfl ?_
  refine z_aload_n zSc dL_law_221 rfl rfl ?_
  refine z_iload_n v3 dL_law_222 rfl rfl ?_
  refine z_iconst 1 dL_law_223 rfl ?_
  refine z_iadd dL_law_224 ?_
  refine z_sld dL_law_225 h.1 ?_
  have h := h.2
  refine z_aload_n zSc dL_law_226 rfl rfl ?_
  refine z_iload_n v3 dL_law_227 rfl rfl ?_
  refine z_iconst 2 dL_law_228 rfl ?_
  refine z_iadd dL_law_229 ?_
  refine z_sld dL_law_230 h.1 ?_
  have h := h.2
  refine z_aload_n zSc dL_law_231 rfl rfl ?_
  refine z_iload_n v3 dL_law_232 rfl rfl ?_
  refine z_iconst 3 dL_law_233 rfl ?_
  refine z_iadd dL_law_234 ?_
  refine z_sld dL_law_235 h.1 ?_
  have h := h.2
  refine z_aload_n zSc dL_law_236 rfl rfl ?_
  refine z_iload_n v3 dL_law_237 rfl rfl ?_
  refine z_iconst 4 dL_law_238 rfl ?_
  refine z_iadd dL_law_239 ?_
  refine z_sld dL_law_240 h.1 ?_
  have h := h.2
  refine z_aload_n zSc dL_law_241 rfl rfl ?_
  refine z_iload_n v3 dL_law_242 rfl rfl ?_
  refine z_iconst 5 dL_law_243 rfl ?_
  refine z_iadd dL_law_244 ?_
  refine z_sld dL_law_245 h.1 ?_
  have h := h.2
  refine zq_VI (N := MX11_feed) (As := [.int (zsx X (v3 + 1).toNatClampNeg), .int (zsx X (v3 + 2).toNatClampNeg), .int (zsx X (v3 + 3).toNatClampNeg), .int (zsx X (v3 + 4).toNatClampNeg), .int (zsx X (v3 + 5).toNatClampNeg)]) m_L_13 dL_law_246 rfl rfl (Nat.le_of_ble_eq_true rfl) h (fun x7 w6 h => ?_)
  refine z_aload_n v2 dL_law_249 rfl rfl ?_
  refine z_aload_n zSc dL_law_250 rfl rfl ?_
  refine z_iload_n v3 dL_law_251 rfl rfl ?_
  refine z_iconst 1 dL_law_252 rfl ?_
  refine z_iadd dL_law_253 ?_
  refine z_sld dL_law_254 h.1 ?_
  have h := h.2
  refine z_aload_n zSc dL_law_255 rfl rfl ?_
  refine z_iload_n v3 dL_law_256 rfl rfl ?_
  refine z_iconst 2 dL_law_257 rfl ?_
  refine z_iadd dL_law_258 ?_
  refine z_sld dL_law_259 h.1 ?_
  have h := h.2
  refine z_aload_n zSc dL_law_260 rfl rfl ?_
  refine z_iload_n v3 dL_law_261 rfl rfl ?_
  refine z_iconst 3 dL_law_262 rfl ?_
  refine z_iadd dL_law_263 ?_
  refine z_sld dL_law_264 h.1 ?_
  have h := h.2
  refine z_aload_n zSc dL_law_265 rfl rfl ?_
  refine z_iload_n v3 dL_law_266 rfl rfl ?_
  refine z_iconst 4 dL_law_267 rfl ?_
  refine z_iadd dL_law_268 ?_
  refine z_sld dL_law_269 h.1 ?_
  have h := h.2
  refine z_aload_n zSc dL_law_270 rfl rfl ?_
  refine z_iload_n v3 dL_law_271 rfl rfl ?_
  refine z_iconst 5 dL_law_272 rfl ?_
  refine z_iadd dL_law_273 ?_
  refine z_sld dL_law_274 h.1 ?_
  have h := h.2
  refine zq_VB (N := MX12_feed) (As := [.int (zsx X (v3 + 1).toNatClampNeg), .int (zsx X (v3 + 2).toNatClampNeg), .int (zsx X (v3 + 3).toNatClampNeg), .int (zsx X (v3 + 4).toNatClampNeg), .int (zsx X (v3 + 5).toNatClampNeg)]) m_L_17 dL_law_275 rfl rfl (Nat.le_of_ble_eq_true rfl) h (fun x14 k15 s16 w13 h => ?_)
  refine z_icmp_eq 1669 dL_law_278 rfl (fun hc => ?_) (fun hc => ?_)
  · rw [if_pos hc] at h
    exact h
  · rw [if_neg hc] at h
    refine z_iconst 0 dL_law_281 rfl ?_
    exact z_ireturn .boolean dL_law_282 rfl rfl h
set_option maxRecDepth 100000 in
set_option maxHeartbeats 4000000 in
theorem bL_law_283 {X : zX} {d kc ks : Nat} {w : zW} {Q : Option Value → zW → Prop} (v1 : Nat) (v2 : Nat) (v3 : Int32)
    (h : vp_in (v3 + 1) (zsL X) ∧ (zIs w v1 10 ∧ zCallI X d MX11_end [.ref v1, .int (zsx X (v3 + 1).toNatClampNeg)] w (fun x3 w2 => vp_in (v3 + 1) (zsL X) ∧ (zIs w2 v2 11 ∧ zCallI X d MX12_end [.ref v2, .int (zsx X (v3 + 1).toNatClampNeg)] w2 (fun x6 w5 => if x3 = x6 then (zRn X d kc ks ML_law 1669 [some (.ref zSc), some (.ref v1), some (.ref v2), some (.int v3)] [] w5 Q) else (Q (some (.int 0)) w5)))))) :
    zRn X d kc ks ML_law 283 [some (.ref zSc), some (.ref v1), some (.ref v2), some (.int v3)] [] w Q := by
  refine z_aload_n v1 dL_law_283 rfl rfl ?_
  refine z_aload_n zSc dL_law_284 rfl rfl ?_
  refine z_iload_n v3 dL_law_285 rfl rfl ?_
  refine z_iconst 1 dL_law_286 rfl ?_
  refine z_iadd dL_law_287 ?_
  refine z_sld dL_law_288 h.1 ?_
  have h := h.2
  refine zq_VI (N := MX11_end) (As := [.int (zsx X (v3 + 1).toNatClampNeg)]) m_L_18 dL_law_289 rfl rfl (Nat.le_of_ble_eq_true rfl) h (fun x3 w2 h => ?_)
  refine z_aload_n v2 dL_law_292 rfl rfl ?_
  refine z_aload_n zSc dL_law_293 rfl rfl ?_
  refine z_iload_n v3 dL_law_294 rfl rfl ?_
  refine z_iconst 1 dL_law_295 rfl ?_
  refine z_iadd dL_law_296 ?_
  refine z_sld dL_law_297 h.1 ?_
  have h := h.2
  refine zq_VI (N := MX12_end) (As := [.int (zsx X (v3 + 1).toNatClampNeg)]) m_L_22 dL_law_298 rfl rfl (Nat.le_of_ble_eq_true rfl) h (fun x6 w5 h => ?_)
  refine z_icmp_eq 1669 dL_law_301 rfl (fun hc => ?_) (fun hc => ?_)
  · rw [if_pos hc] at h
    exact h
  · rw [if_neg hc] at h
    refine z_iconst 0 dL_law_304 rfl ?_
    exact z_ireturn .boolean dL_law_305 rfl rfl h
set_option maxRecDepth 100000 in
set_option maxHeartbeats 4000000 in
theorem bL_law_306 {X : zX} {d kc ks : Nat} {w : zW} {Q : Option Value → zW → Prop} (v1 : Nat) (v2 : Nat) (v3 : Int32)
    (h : vp_in (v3 + 1) (zsL X) ∧ (zIs w v1 10 ∧ zCallI X d MX11_told [.ref v1, .int (zsx X (v3 + 1).toNatClampNeg)] w (fun x3 w2 => vp_in (v3 + 1) (zsL X) ∧ (zIs w2 v2 11 ∧ zCallI X d MX12_told [.ref v2, .int (zsx X (v3 + 1).toNatClampNeg)] w2 (fun x6 w5 => if x3 = x6 then (zRn X d kc ks ML_law 1669 [some (.ref zSc), some (.ref v1), some (.ref v2), some (.int v3)] [] w5 Q) else (Q (some (.int 0)) w5)))))) :
    zRn X d kc ks ML_law 306 [some (.ref zSc), some (.ref v1), some (.ref v2), some (.int v3)] [] w Q := by
  refine z_aload_n v1 dL_law_306 rfl rfl ?_
  refine z_aload_n zSc dL_law_307 rfl rfl ?_
  refine z_iload_n v3 dL_law_308 rfl rfl ?_
  refine z_iconst 1 dL_law_309 rfl ?_
  refine z_iadd dL_law_310 ?_
  refine z_sld dL_law_311 h.1 ?_
  have h := h.2
  refine zq_VI (N := MX11_told) (As := [.int (zsx X (v3 + 1).toNatClampNeg)]) m_L_23 dL_law_312 rfl rfl (Nat.le_of_ble_eq_true rfl) h (fun x3 w2 h => ?_)
  refine z_aload_n v2 dL_law_315 rfl rfl ?_
  refine z_aload_n zSc dL_law_316 rfl rfl ?_
  refine z_iload_n v3 dL_law_317 rfl rfl ?_
  refine z_iconst 1 dL_law_318 rfl ?_
  refine z_iadd dL_law_319 ?_
  refine z_sld dL_law_320 h.1 ?_
  have h := h.2
  refine zq_VI (N := MX12_told) (As := [.int (zsx X (v3 + 1).toNatClampNeg)]) m_L_26 dL_law_321 rfl rfl (Nat.le_of_ble_eq_true rfl) h (fun x6 w5 h => ?_)
  refine z_icmp_eq 1669 dL_law_324 rfl (fun hc => ?_) (fun hc => ?_)
  · rw [if_pos hc] at h
    exact h
  · rw [if_neg hc] at h
    refine z_iconst 0 dL_law_327 rfl ?_
    exact z_ireturn .boolean dL_law_328 rfl rfl h
set_option maxRecDepth 100000 in
set_option maxHeartbeats 4000000 in
theorem bL_law_329 {X : zX} {d kc ks : Nat} {w : zW} {Q : Option Value → zW → Prop} (v1 : Nat) (v2 : Nat) (v3 : Int32)
    (h : vp_in (v3 + 1) (zsL X) ∧ (zIs w v1 10 ∧ zCallI X d MX11_fault [.ref v1, .int (zsx X (v3 + 1).toNatClampNeg)] w (fun x3 w2 => vp_in (v3 + 1) (zsL X) ∧ (zIs w2 v2 11 ∧ zCallI X d MX12_fault [.ref v2, .int (zsx X (v3 + 1).toNatClampNeg)] w2 (fun x6 w5 => if x3 = x6 then (zRn X d kc ks ML_law 1669 [some (.ref zSc), some (.ref v1), some (.ref v2), some (.int v3)] [] w5 Q) else (Q (some (.int 0)) w5)))))) :
    zRn X d kc ks ML_law 329 [some (.ref zSc), some (.ref v1), some (.ref v2), some (.int v3)] [] w Q := by
  refine z_aload_n v1 dL_law_329 rfl rfl ?_
  refine z_aload_n zSc dL_law_330 rfl rfl ?_
  refine z_iload_n v3 dL_law_331 rfl rfl ?_
  refine z_iconst 1 dL_law_332 rfl ?_
  refine z_iadd dL_law_333 ?_
  refine z_sld dL_law_334 h.1 ?_
  have h := h.2
  refine zq_VI (N := MX11_fault) (As := [.int (zsx X (v3 + 1).toNatClampNeg)]) m_L_27 dL_law_335 rfl rfl (Nat.le_of_ble_eq_true rfl) h (fun x3 w2 h => ?_)
  refine z_aload_n v2 dL_law_338 rfl rfl ?_
  refine z_aload_n zSc dL_law_339 rfl rfl ?_
  refine z_iload_n v3 dL_law_340 rfl rfl ?_
  refine z_iconst 1 dL_law_341 rfl ?_
  refine z_iadd dL_law_342 ?_
  refine z_sld dL_law_343 h.1 ?_
  have h := h.2
  refine zq_VI (N := MX12_fault) (As := [.int (zsx X (v3 + 1).toNatClampNeg)]) m_L_30 dL_law_344 rfl rfl (Nat.le_of_ble_eq_true rfl) h (fun x6 w5 h => ?_)
  refine z_icmp_eq 1669 dL_law_347 rfl (fun hc => ?_) (fun hc => ?_)
  · rw [if_pos hc] at h
    exact h
  · rw [if_neg hc] at h
    refine z_iconst 0 dL_law_350 rfl ?_
    exact z_ireturn .boolean dL_law_351 rfl rfl h
set_option maxRecDepth 100000 in
set_option maxHeartbeats 4000000 in
theorem bL_law_352 {X : zX} {d kc ks : Nat} {w : zW} {Q : Option Value → zW → Prop} (v1 : Nat) (v2 : Nat) (v3 : Int32)
    (h : vp_in (v3 + 1) (zsL X) ∧ (zIs w v1 10 ∧ zCallI X d MX11_count [.ref v1, .int (zsx X (v3 + 1).toNatClampNeg)] w (fun x3 w2 => vp_in (v3 + 1) (zsL X) ∧ (zIs w2 v2 11 ∧ zCallI X d MX12_count [.ref v2, .int (zsx X (v3 + 1).toNatClampNeg)] w2 (fun x6 w5 => if x3 = x6 then (zRn X d kc ks ML_law 1669 [some (.ref zSc), some (.ref v1), some (.ref v2), some (.int v3)] [] w5 Q) else (Q (some (.int 0)) w5)))))) :
    zRn X d kc ks ML_law 352 [some (.ref zSc), some (.ref v1), some (.ref v2), some (.int v3)] [] w Q := by
  refine z_aload_n v1 dL_law_352 rfl rfl ?_
  refine z_aload_n zSc dL_law_353 rfl rfl ?_
  refine z_iload_n v3 dL_law_354 rfl rfl ?_
  refine z_iconst 1 dL_law_355 rfl ?_
  refine z_iadd dL_law_356 ?_
  refine z_sld dL_law_357 h.1 ?_
  have h := h.2
  refine zq_VI (N := MX11_count) (As := [.int (zsx X (v3 + 1).toNatClampNeg)]) m_L_31 dL_law_358 rfl rfl (Nat.le_of_ble_eq_true rfl) h (fun x3 w2 h => ?_)
  refine z_aload_n v2 dL_law_361 rfl rfl ?_
  refine z_aload_n zSc dL_law_362 rfl rfl ?_
  refine z_iload_n v3 dL_law_363 rfl rfl ?_
  refine z_iconst 1 dL_law_364 rfl ?_
  refine z_iadd dL_law_365 ?_
  refine z_sld dL_law_366 h.1 ?_
  have h := h.2
  refine zq_VI (N := MX12_count) (As := [.int (zsx X (v3 + 1).toNatClampNeg)]) m_L_34 dL_law_367 rfl rfl (Nat.le_of_ble_eq_true rfl) h (fun x6 w5 h => ?_)
  refine z_icmp_eq 1669 dL_law_370 rfl (fun hc => ?_) (fun hc => ?_)
  · rw [if_pos hc] at h
    exact h
  · rw [if_neg hc] at h
    refine z_iconst 0 dL_law_373 rfl ?_
    exact z_ireturn .boolean dL_law_374 rfl rfl h
set_option maxRecDepth 100000 in
set_option maxHeartbeats 4000000 in
theorem bL_law_375 {X : zX} {d kc ks : Nat} {w : zW} {Q : Option Value → zW → Prop} (v1 : Nat) (v2 : Nat) (v3 : Int32)
    (h : vp_in (v3 + 1) (zsL X) ∧ (vp_in (v3 + 2) (zsL X) ∧ (zIs w v1 10 ∧ zCallI X d MX11_look [.ref v1, .int (zsx X (v3 + 1).toNatClampNeg), .int (zsx X (v3 + 2).toNatClampNeg)] w (fun x4 w3 => vp_in (v3 + 1) (zsL X) ∧ (vp_in (v3 + 2) (zsL X) ∧ (zIs w3 v2 11 ∧ zCallI X d MX12_look [.ref v2, .int (zsx X (v3 + 1).toNatClampNeg), .int (zsx X (v3 + 2).toNatClampNeg)] w3 (fun x8 w7 => if x4 = x8 then (zRn X d kc ks ML_law 1669 [some (.ref zSc), some (.ref v1), some (.ref v2), some (.int v3)] [] w7 Q) else (Q (some (.int 0)) w7)))))))) :
    zRn X d kc ks ML_law 375 [some (.ref zSc), some (.ref v1), some (.ref v2), some (.int v3)] [] w Q := by
  refine z_aload_n v1 dL_law_375 rfl rfl ?_
  refine z_aload_n zSc dL_law_376 rfl rfl ?_
  refine z_iload_n v3 dL_law_377 rfl rfl ?_
  refine z_iconst 1 dL_law_378 rfl ?_
  refine z_iadd dL_law_379 ?_
  refine z_sld dL_law_380 h.1 ?_
  have h := h.2
  refine z_aload_n zSc dL_law_381 rfl rfl ?_
  refine z_iload_n v3 dL_law_382 rfl rfl ?_
  refine z_iconst 2 dL_law_383 rfl ?_
  refine z_iadd dL_law_384 ?_
  refine z_sld dL_law_385 h.1 ?_
  have h := h.2
  refine zq_VI (N := MX11_look) (As := [.int (zsx X (v3 + 1).toNatClampNeg), .int (zsx X (v3 + 2).toNatClampNeg)]) m_L_35 dL_law_386 rfl rfl (Nat.le_of_ble_eq_true rfl) h (fun x4 w3 h => ?_)
  refine z_aload_n v2 dL_law_389 rfl rfl ?_
  refine z_aload_n zSc dL_law_390 rfl rfl ?_
  refine z_iload_n v3 dL_law_391 rfl rfl ?_
  refine z_iconst 1 dL_law_392 rfl ?_
  refine z_iadd dL_law_393 ?_
  refine z_sld dL_law_394 h.1 ?_
  have h := h.2
  refine z_aload_n zSc dL_law_395 rfl rfl ?_
  refine z_iload_n v3 dL_law_396 rfl rfl ?_
  refine z_iconst 2 dL_law_397 rfl ?_
  refine z_iadd dL_law_398 ?_
  refine z_sld dL_law_399 h.1 ?_
  have h := h.2
  refine zq_VI (N := MX12_look) (As := [.int (zsx X (v3 + 1).toNatClampNeg), .int (zsx X (v3 + 2).toNatClampNeg)]) m_L_39 dL_law_400 rfl rfl (Nat.le_of_ble_eq_true rfl) h (fun x8 w7 h => ?_)
  refine z_icmp_eq 1669 dL_law_403 rfl (fun hc => ?_) (fun hc => ?_)
  · rw [if_pos hc] at h
    exact h
  · rw [if_neg hc] at h
    refine z_iconst 0 dL_law_406 rfl ?_
    exact z_ireturn .boolean dL_law_407 rfl rfl h
set_option maxRecDepth 100000 in
set_option maxHeartbeats 4000000 in
theorem bL_law_408 {X : zX} {d kc ks : Nat} {w : zW} {Q : Option Value → zW → Prop} (v1 : Nat) (v2 : Nat) (v3 : Int32)
    (h : vp_in (v3 + 1) (zsL X) ∧ (vp_in (v3 + 2) (zsL X) ∧ (vp_in (v3 + 3) (zsL X) ∧ (zIs w v1 10 ∧ zCallI X d MX11_of [.ref v1, .int (zsx X (v3 + 1).toNatClampNeg), .int (zsx X (v3 + 2).toNatClampNeg), .int (zsx X (v3 + 3).toNatClampNeg)] w (fun x5 w4 => vp_in (v3 + 1) (zsL X) ∧ (vp_in (v3 + 2) (zsL X) ∧ (vp_in (v3 + 3) (zsL X) ∧ (zIs w4 v2 11 ∧ zCallI X d MX12_of_ [.ref v2, .int (zsx X (v3 + 1).toNatClampNeg), .int (zsx X (v3 + 2).toNatClampNeg), .int (zsx X (v3 + 3).toNatClampNeg)] w4 (fun x10 w9 => if x5 = x10 then (zRn X d kc ks ML_law 1669 [some (.ref zSc), some (.ref v1), some (.ref v2), some (.int v3)] [] w9 Q) else (Q (some (.int 0)) w9)))))))))) :
    zRn X d kc ks ML_law 408 [some (.ref zSc), some (.ref v1), some (.ref v2), some (.int v3)] [] w Q := by
  refine z_aload_n v1 dL_law_408 rfl rfl ?_
  refine z_aload_n zSc dL_law_409 rfl rfl ?_
  refine z_iload_n v3 dL_law_410 rfl rfl ?_
  refine z_iconst 1 dL_law_411 rfl ?_
  refine z_iadd dL_law_412 ?_
  refine z_sld dL_law_413 h.1 ?_
  have h := h.2
  refine z_aload_n zSc dL_law_414 rfl rfl ?_
  refine z_iload_n v3 dL_law_415 rfl rfl ?_
  refine z_iconst 2 dL_law_416 rfl ?_
  refine z_iadd dL_law_417 ?_
  refine z_sld dL_law_418 h.1 ?_
  have h := h.2
  refine z_aload_n zSc dL_law_419 rfl rfl ?_
  refine z_iload_n v3 dL_law_420 rfl rfl ?_
  refine z_iconst 3 dL_law_421 rfl ?_
  refine z_iadd dL_law_422 ?_
  refine z_sld dL_law_423 h.1 ?_
  have h := h.2
  refine zq_VI (N := MX11_of) (As := [.int (zsx X (v3 + 1).toNatClampNeg), .int (zsx X (v3 + 2).toNatClampNeg), .int (zsx X (v3 + 3).toNatClampNeg)]) m_L_40 dL_law_424 rfl rfl (Nat.le_of_ble_eq_true rfl) h (fun x5 w4 h => ?_)
  refine z_aload_n v2 dL_law_427 rfl rfl ?_
  refine z_aload_n zSc dL_law_428 rfl rfl ?_
  refine z_iload_n v3 dL_law_429 rfl rfl ?_
  refine z_iconst 1 dL_law_430 rfl ?_
  refine z_iadd dL_law_431 ?_
  refine z_sld dL_law_432 h.1 ?_
  have h := h.2
  refine z_aload_n zSc dL_law_433 rfl rfl ?_
  refine z_iload_n v3 dL_law_434 rfl rfl ?_
  refine z_iconst 2 dL_law_435 rfl ?_
  refine z_iadd dL_law_436 ?_
  refine z_sld dL_law_437 h.1 ?_
  have h := h.2
  refine z_aload_n zSc dL_law_438 rfl rfl ?_
  refine z_iload_n v3 dL_law_439 rfl rfl ?_
  refine z_iconst 3 dL_law_440 rfl ?_
  refine z_iadd dL_law_441 ?_
  refine z_sld dL_law_442 h.1 ?_
  have h := h.2
  refine zq_VI (N := MX12_of_) (As := [.int (zsx X (v3 + 1).toNatClampNeg), .int (zsx X (v3 + 2).toNatClampNeg), .int (zsx X (v3 + 3).toNatClampNeg)]) m_L_44 dL_law_443 rfl rfl (Nat.le_of_ble_eq_true rfl) h (fun x10 w9 h => ?_)
  refine z_icmp_eq 1669 dL_law_446 rfl (fun hc => ?_) (fun hc => ?_)
  · rw [if_pos hc] at h
    exact h
  · rw [if_neg hc] at h
    refine z_iconst 0 dL_law_449 rfl ?_
    exact z_ireturn .boolean dL_law_450 rfl rfl h
set_option maxRecDepth 100000 in
set_option maxHeartbeats 4000000 in
theorem bL_law_451 {X : zX} {d kc ks : Nat} {w : zW} {Q : Option Value → zW → Prop} (v1 : Nat) (v2 : Nat) (v3 : Int32)
    (h : vp_in (v3 + 1) (zsL X) ∧ (vp_in (v3 + 2) (zsL X) ∧ (zIs w v1 10 ∧ zCallI X d MX11_is [.ref v1, .int (zsx X (v3 + 1).toNatClampNeg), .int (zsx X (v3 + 2).toNatClampNeg)] w (fun x4 w3 => vp_in (v3 + 1) (zsL X) ∧ (vp_in (v3 + 2) (zsL X) ∧ (zIs w3 v2 11 ∧ zCallI X d MX12_is [.ref v2, .int (zsx X (v3 + 1).toNatClampNeg), .int (zsx X (v3 + 2).toNatClampNeg)] w3 (fun x8 w7 => if x4 = x8 then (zRn X d kc ks ML_law 1669 [some (.ref zSc), some (.ref v1), some (.ref v2), some (.int v3)] [] w7 Q) else (Q (some (.int 0)) w7)))))))) :
    zRn X d kc ks ML_law 451 [some (.ref zSc), some (.ref v1), some (.ref v2), some (.int v3)] [] w Q := by
  refine z_aload_n v1 dL_law_451 rfl rfl ?_
  refine z_aload_n zSc dL_law_452 rfl rfl ?_
  refine z_iload_n v3 dL_law_453 rfl rfl ?_
  refine z_iconst 1 dL_law_454 rfl ?_
  refine z_iadd dL_law_455 ?_
  refine z_sld dL_law_456 h.1 ?_
  have h := h.2
  refine z_aload_n zSc dL_law_457 rfl rfl ?_
  refine z_iload_n v3 dL_law_458 rfl rfl ?_
  refine z_iconst 2 dL_law_459 rfl ?_
  refine z_iadd dL_law_460 ?_
  refine z_sld dL_law_461 h.1 ?_
  have h := h.2
  refine zq_VI (N := MX11_is) (As := [.int (zsx X (v3 + 1).toNatClampNeg), .int (zsx X (v3 + 2).toNatClampNeg)]) m_L_45 dL_law_462 rfl rfl (Nat.le_of_ble_eq_true rfl) h (fun x4 w3 h => ?_)
  refine z_aload_n v2 dL_law_465 rfl rfl ?_
  refine z_aload_n zSc dL_law_466 rfl rfl ?_
  refine z_iload_n v3 dL_law_467 rfl rfl ?_
  refine z_iconst 1 dL_law_468 rfl ?_
  refine z_iadd dL_law_469 ?_
  refine z_sld dL_law_470 h.1 ?_
  have h := h.2
  refine z_aload_n zSc dL_law_471 rfl rfl ?_
  refine z_iload_n v3 dL_law_472 rfl rfl ?_
  refine z_iconst 2 dL_law_473 rfl ?_
  refine z_iadd dL_law_474 ?_
  refine z_sld dL_law_475 h.1 ?_
  have h := h.2
  refine zq_VI (N := MX12_is) (As := [.int (zsx X (v3 + 1).toNatClampNeg), .int (zsx X (v3 + 2).toNatClampNeg)]) m_L_48 dL_law_476 rfl rfl (Nat.le_of_ble_eq_true rfl) h (fun x8 w7 h => ?_)
  refine z_icmp_eq 1669 dL_law_479 rfl (fun hc => ?_) (fun hc => ?_)
  · rw [if_pos hc] at h
    exact h
  · rw [if_neg hc] at h
    refine z_iconst 0 dL_law_482 rfl ?_
    exact z_ireturn .boolean dL_law_483 rfl rfl h
set_option maxRecDepth 100000 in
set_option maxHeartbeats 4000000 in
theorem bL_law_484 {X : zX} {d kc ks : Nat} {w : zW} {Q : Option Value → zW → Prop} (v1 : Nat) (v2 : Nat) (v3 : Int32)
    (h : vp_in (v3 + 1) (zsL X) ∧ (vp_in (v3 + 2) (zsL X) ∧ (zIs w v1 10 ∧ zCallI X d MX11_chain [.ref v1, .int (zsx X (v3 + 1).toNatClampNeg), .int (zsx X (v3 + 2).toNatClampNeg)] w (fun x4 w3 => vp_in (v3 + 1) (zsL X) ∧ (vp_in (v3 + 2) (zsL X) ∧ (zIs w3 v2 11 ∧ zCallI X d MX12_chain [.ref v2, .int (zsx X (v3 + 1).toNatClampNeg), .int (zsx X (v3 + 2).toNatClampNeg)] w3 (fun x8 w7 => if x4 = x8 then (zRn X d kc ks ML_law 1669 [some (.ref zSc), some (.ref v1), some (.ref v2), some (.int v3)] [] w7 Q) else (Q (some (.int 0)) w7)))))))) :
    zRn X d kc ks ML_law 484 [some (.ref zSc), some (.ref v1), some (.ref v2), some (.int v3)] [] w Q := by
  refine z_aload_n v1 dL_law_484 rfl rfl ?_
  refine z_aload_n zSc dL_law_485 rfl rfl ?_
  refine z_iload_n v3 dL_law_486 rfl rfl ?_
  refine z_iconst 1 dL_law_487 rfl ?_
  refine z_iadd dL_law_488 ?_
  refine z_sld dL_law_489 h.1 ?_
  have h := h.2
  refine z_aload_n zSc dL_law_490 rfl rfl ?_
  refine z_iload_n v3 dL_law_491 rfl rfl ?_
  refine z_iconst 2 dL_law_492 rfl ?_
  refine z_iadd dL_law_493 ?_
  refine z_sld dL_law_494 h.1 ?_
  have h := h.2
  refine zq_VI (N := MX11_chain) (As := [.int (zsx X (v3 + 1).toNatClampNeg), .int (zsx X (v3 + 2).toNatClampNeg)]) m_L_49 dL_law_495 rfl rfl (Nat.le_of_ble_eq_true rfl) h (fun x4 w3 h => ?_)
  refine z_aload_n v2 dL_law_498 rfl rfl ?_
  refine z_aload_n zSc dL_law_499 rfl rfl ?_
  refine z_iload_n v3 dL_law_500 rfl rfl ?_
  refine z_iconst 1 dL_law_501 rfl ?_
  refine z_iadd dL_law_502 ?_
  refine z_sld dL_law_503 h.1 ?_
  have h := h.2
  refine z_aload_n zSc dL_law_504 rfl rfl ?_
  refine z_iload_n v3 dL_law_505 rfl rfl ?_
  refine z_iconst 2 dL_law_506 rfl ?_
  refine z_iadd dL_law_507 ?_
  refine z_sld dL_law_508 h.1 ?_
  have h := h.2
  refine zq_VI (N := MX12_chain) (As := [.int (zsx X (v3 + 1).toNatClampNeg), .int (zsx X (v3 + 2).toNatClampNeg)]) m_L_52 dL_law_509 rfl rfl (Nat.le_of_ble_eq_true rfl) h (fun x8 w7 h => ?_)
  refine z_icmp_eq 1669 dL_law_512 rfl (fun hc => ?_) (fun hc => ?_)
  · rw [if_pos hc] at h
    exact h
  · rw [if_neg hc] at h
    refine z_iconst 0 dL_law_515 rfl ?_
    exact z_ireturn .boolean dL_law_516 rfl rfl h
set_option maxRecDepth 100000 in
set_option maxHeartbeats 4000000 in
theorem bL_law_517 {X : zX} {d kc ks : Nat} {w : zW} {Q : Option Value → zW → Prop} (v1 : Nat) (v2 : Nat) (v3 : Int32)
    (h : vp_in (v3 + 1) (zsL X) ∧ (zIs w v1 10 ∧ zCallI X d MX11_anti [.ref v1, .int (zsx X (v3 + 1).toNatClampNeg)] w (fun x3 w2 => vp_in (v3 + 1) (zsL X) ∧ (zIs w2 v2 11 ∧ zCallI X d MX12_anti [.ref v2, .int (zsx X (v3 + 1).toNatClampNeg)] w2 (fun x6 w5 => if x3 = x6 then (zRn X d kc ks ML_law 1669 [some (.ref zSc), some (.ref v1), some (.ref v2), some (.int v3)] [] w5 Q) else (Q (some (.int 0)) w5)))))) :
    zRn X d kc ks ML_law 517 [some (.ref zSc), some (.ref v1), some (.ref v2), some (.int v3)] [] w Q := by
  refine z_aload_n v1 dL_law_517 rfl rfl ?_
  refine z_aload_n zSc dL_law_518 rfl rfl ?_
  refine z_iload_n v3 dL_law_519 rfl rfl ?_
  refine z_iconst 1 dL_law_520 rfl ?_
  refine z_iadd dL_law_521 ?_
  refine z_sld dL_law_522 h.1 ?_
  have h := h.2
  refine zq_VI (N := MX11_anti) (As := [.int (zsx X (v3 + 1).toNatClampNeg)]) m_L_53 dL_law_523 rfl rfl (Nat.le_of_ble_eq_true rfl) h (fun x3 w2 h => ?_)
  refine z_aload_n v2 dL_law_526 rfl rfl ?_
  refine z_aload_n zSc dL_law_527 rfl rfl ?_
  refine z_iload_n v3 dL_law_528 rfl rfl ?_
  refine z_iconst 1 dL_law_529 rfl ?_
  refine z_iadd dL_law_530 ?_
  refine z_sld dL_law_531 h.1 ?_
  have h := h.2
  refine zq_VI (N := MX12_anti) (As := [.int (zsx X (v3 + 1).toNatClampNeg)]) m_L_56 dL_law_532 rfl rfl (Nat.le_of_ble_eq_true rfl) h (fun x6 w5 h => ?_)
  refine z_icmp_eq 1669 dL_law_535 rfl (fun hc => ?_) (fun hc => ?_)
  · rw [if_pos hc] at h
    exact h
  · rw [if_neg hc] at h
    refine z_iconst 0 dL_law_538 rfl ?_
    exact z_ireturn .boolean dL_law_539 rfl rfl h
set_option maxRecDepth 100000 in
set_option maxHeartbeats 4000000 in
theorem bL_law_540 {X : zX} {d kc ks : Nat} {w : zW} {Q : Option Value → zW → Prop} (v1 : Nat) (v2 : Nat) (v3 : Int32)
    (h : vp_in (v3 + 1) (zsL X) ∧ (vp_in (v3 + 2) (zsL X) ∧ (zIs w v1 10 ∧ zCallI X d MX11_part [.ref v1, .int (zsx X (v3 + 1).toNatClampNeg), .int (zsx X (v3 + 2).toNatClampNeg)] w (fun x4 w3 => vp_in (v3 + 1) (zsL X) ∧ (vp_in (v3 + 2) (zsL X) ∧ (zIs w3 v2 11 ∧ zCallI X d MX12_part [.ref v2, .int (zsx X (v3 + 1).toNatClampNeg), .int (zsx X (v3 + 2).toNatClampNeg)] w3 (fun x8 w7 => if x4 = x8 then (zRn X d kc ks ML_law 1669 [some (.ref zSc), some (.ref v1), some (.ref v2), some (.int v3)] [] w7 Q) else (Q (some (.int 0)) w7)))))))) :
    zRn X d kc ks ML_law 540 [some (.ref zSc), some (.ref v1), some (.ref v2), some (.int v3)] [] w Q := by
  refine z_aload_n v1 dL_law_540 rfl rfl ?_
  refine z_aload_n zSc dL_law_541 rfl rfl ?_
  refine z_iload_n v3 dL_law_542 rfl rfl ?_
  refine z_iconst 1 dL_law_543 rfl ?_
  refine z_iadd dL_law_544 ?_
  refine z_sld dL_law_545 h.1 ?_
  have h := h.2
  refine z_aload_n zSc dL_law_546 rfl rfl ?_
  refine z_iload_n v3 dL_law_547 rfl rfl ?_
  refine z_iconst 2 dL_law_548 rfl ?_
  refine z_iadd dL_law_549 ?_
  refine z_sld dL_law_550 h.1 ?_
  have h := h.2
  refine zq_VI (N := MX11_part) (As := [.int (zsx X (v3 + 1).toNatClampNeg), .int (zsx X (v3 + 2).toNatClampNeg)]) m_L_57 dL_law_551 rfl rfl (Nat.le_of_ble_eq_true rfl) h (fun x4 w3 h => ?_)
  refine z_aload_n v2 dL_law_554 rfl rfl ?_
  refine z_aload_n zSc dL_law_555 rfl rfl ?_
  refine z_iload_n v3 dL_law_556 rfl rfl ?_
  refine z_iconst 1 dL_law_557 rfl ?_
  refine z_iadd dL_law_558 ?_
  refine z_sld dL_law_559 h.1 ?_
  have h := h.2
  refine z_aload_n zSc dL_law_560 rfl rfl ?_
  refine z_iload_n v3 dL_law_561 rfl rfl ?_
  refine z_iconst 2 dL_law_562 rfl ?_
  refine z_iadd dL_law_563 ?_
  refine z_sld dL_law_564 h.1 ?_
  have h := h.2
  refine zq_VI (N := MX12_part) (As := [.int (zsx X (v3 + 1).toNatClampNeg), .int (zsx X (v3 + 2).toNatClampNeg)]) m_L_60 dL_law_565 rfl rfl (Nat.le_of_ble_eq_true rfl) h (fun x8 w7 h => ?_)
  refine z_icmp_eq 1669 dL_law_568 rfl (fun hc => ?_) (fun hc => ?_)
  · rw [if_pos hc] at h
    exact h
  · rw [if_neg hc] at h
    refine z_iconst 0 dL_law_571 rfl ?_
    exact z_ireturn .boolean dL_law_572 rfl rfl h
set_option maxRecDepth 100000 in
set_option maxHeartbeats 4000000 in
theorem bL_law_573 {X : zX} {d kc ks : Nat} {w : zW} {Q : Option Value → zW → Prop} (v1 : Nat) (v2 : Nat) (v3 : Int32)
    (h : vp_in (v3 + 1) (zsL X) ∧ (zIs w v1 10 ∧ zCallI X d MX11_lines [.ref v1, .int (zsx X (v3 + 1).toNatClampNeg)] w (fun x3 w2 => vp_in (v3 + 1) (zsL X) ∧ (zIs w2 v2 11 ∧ zCallI X d MX12_lines [.ref v2, .int (zsx X (v3 + 1).toNatClampNeg)] w2 (fun x6 w5 => if x3 = x6 then (zRn X d kc ks ML_law 1669 [some (.ref zSc), some (.ref v1), some (.ref v2), some (.int v3)] [] w5 Q) else (Q (some (.int 0)) w5)))))) :
    zRn X d kc ks ML_law 573 [some (.ref zSc), some (.ref v1), some (.ref v2), some (.int v3)] [] w Q := by
  refine z_aload_n v1 dL_law_573 rfl rfl ?_
  refine z_aload_n zSc dL_law_574 rfl rfl ?_
  refine z_iload_n v3 dL_law_575 rfl rfl ?_
  refine z_iconst 1 dL_law_576 rfl ?_
  refine z_iadd dL_law_577 ?_
  refine z_sld dL_law_578 h.1 ?_
  have h := h.2
  refine zq_VI (N := MX11_lines) (As := [.int (zsx X (v3 + 1).toNatClampNeg)]) m_L_61 dL_law_579 rfl rfl (Nat.le_of_ble_eq_true rfl) h (fun x3 w2 h => ?_)
  refine z_aload_n v2 dL_law_582 rfl rfl ?_
  refine z_aload_n zSc dL_law_583 rfl rfl ?_
  refine z_iload_n v3 dL_law_584 rfl rfl ?_
  refine z_iconst 1 dL_law_585 rfl ?_
  refine z_iadd dL_law_586 ?_
  refine z_sld dL_law_587 h.1 ?_
  have h := h.2
  refine zq_VI (N := MX12_lines) (As := [.int (zsx X (v3 + 1).toNatClampNeg)]) m_L_64 dL_law_588 rfl rfl (Nat.le_of_ble_eq_true rfl) h (fun x6 w5 h => ?_)
  refine z_icmp_eq 1669 dL_law_591 rfl (fun hc => ?_) (fun hc => ?_)
  · rw [if_pos hc] at h
    exact h
  · rw [if_neg hc] at h
    refine z_iconst 0 dL_law_594 rfl ?_
    exact z_ireturn .boolean dL_law_595 rfl rfl h
set_option maxRecDepth 100000 in
set_option maxHeartbeats 4000000 in
theorem bL_law_596 {X : zX} {d kc ks : Nat} {w : zW} {Q : Option Value → zW → Prop} (v1 : Nat) (v2 : Nat) (v3 : Int32)
    (h : vp_in (v3 + 1) (zsL X) ∧ (vp_in (v3 + 2) (zsL X) ∧ (vp_in (v3 + 3) (zsL X) ∧ (zIs w v1 10 ∧ zCallI X d MX11_line [.ref v1, .int (zsx X (v3 + 1).toNatClampNeg), .int (zsx X (v3 + 2).toNatClampNeg), .int (zsx X (v3 + 3).toNatClampNeg)] w (fun x5 w4 => vp_in (v3 + 1) (zsL X) ∧ (vp_in (v3 + 2) (zsL X) ∧ (vp_in (v3 + 3) (zsL X) ∧ (zIs w4 v2 11 ∧ zCallI X d MX12_line [.ref v2, .int (zsx X (v3 + 1).toNatClampNeg), .int (zsx X (v3 + 2).toNatClampNeg), .int (zsx X (v3 + 3).toNatClampNeg)] w4 (fun x10 w9 => if x5 = x10 then (zRn X d kc ks ML_law 1669 [some (.ref zSc), some (.ref v1), some (.ref v2), some (.int v3)] [] w9 Q) else (Q (some (.int 0)) w9)))))))))) :
    zRn X d kc ks ML_law 596 [some (.ref zSc), some (.ref v1), some (.ref v2), some (.int v3)] [] w Q := by
  refine z_aload_n v1 dL_law_596 rfl rfl ?_
  refine z_aload_n zSc dL_law_597 rfl rfl ?_
  refine z_iload_n v3 dL_law_598 rfl rfl ?_
  refine z_iconst 1 dL_law_599 rfl ?_
  refine z_iadd dL_law_600 ?_
  refine z_sld dL_law_601 h.1 ?_
  have h := h.2
  refine z_aload_n zSc dL_law_602 rfl rfl ?_
  refine z_iload_n v3 dL_law_603 rfl rfl ?_
  refine z_iconst 2 dL_law_604 rfl ?_
  refine z_iadd dL_law_605 ?_
  refine z_sld dL_law_606 h.1 ?_
  have h := h.2
  refine z_aload_n zSc dL_law_607 rfl rfl ?_
  refine z_iload_n v3 dL_law_608 rfl rfl ?_
  refine z_iconst 3 dL_law_609 rfl ?_
  refine z_iadd dL_law_610 ?_
  refine z_sld dL_law_611 h.1 ?_
  have h := h.2
  refine zq_VI (N := MX11_line) (As := [.int (zsx X (v3 + 1).toNatClampNeg), .int (zsx X (v3 + 2).toNatClampNeg), .int (zsx X (v3 + 3).toNatClampNeg)]) m_L_65 dL_law_612 rfl rfl (Nat.le_of_ble_eq_true rfl) h (fun x5 w4 h => ?_)
  refine z_aload_n v2 dL_law_615 rfl rfl ?_
  refine z_aload_n zSc dL_law_616 rfl rfl ?_
  refine z_iload_n v3 dL_law_617 rfl rfl ?_
  refine z_iconst 1 dL_law_618 rfl ?_
  refine z_iadd dL_law_619 ?_
  refine z_sld dL_law_620 h.1 ?_
  have h := h.2
  refine z_aload_n zSc dL_law_621 rfl rfl ?_
  refine z_iload_n v3 dL_law_622 rfl rfl ?_
  refine z_iconst 2 dL_law_623 rfl ?_
  refine z_iadd dL_law_624 ?_
  refine z_sld dL_law_625 h.1 ?_
  have h := h.2
  refine z_aload_n zSc dL_law_626 rfl rfl ?_
  refine z_iload_n v3 dL_law_627 rfl rfl ?_
  refine z_iconst 3 dL_law_628 rfl ?_
  refine z_iadd dL_law_629 ?_
  refine z_sld dL_law_630 h.1 ?_
  have h := h.2
  refine zq_VI (N := MX12_line) (As := [.int (zsx X (v3 + 1).toNatClampNeg), .int (zsx X (v3 + 2).toNatClampNeg), .int (zsx X (v3 + 3).toNatClampNeg)]) m_L_68 dL_law_631 rfl rfl (Nat.le_of_ble_eq_true rfl) h (fun x10 w9 h => ?_)
  refine z_icmp_eq 1669 dL_law_634 rfl (fun hc => ?_) (fun hc => ?_)
  · rw [if_pos hc] at h
    exact h
  · rw [if_neg hc] at h
    refine z_iconst 0 dL_law_637 rfl ?_
    exact z_ireturn .boolean dL_law_638 rfl rfl h
set_option maxRecDepth 100000 in
set_option maxHeartbeats 4000000 in
theorem bL_law_639 {X : zX} {d kc ks : Nat} {w : zW} {Q : Option Value → zW → Prop} (v1 : Nat) (v2 : Nat) (v3 : Int32)
    (h : vp_in (v3 + 1) (zsL X) ∧ (vp_in (v3 + 2) (zsL X) ∧ (zIs w v1 10 ∧ zCallI X d MX11_rank [.ref v1, .int (zsx X (v3 + 1).toNatClampNeg), .int (zsx X (v3 + 2).toNatClampNeg)] w (fun x4 w3 => vp_in (v3 + 1) (zsL X) ∧ (vp_in (v3 + 2) (zsL X) ∧ (zIs w3 v2 11 ∧ zCallI X d MX12_rank [.ref v2, .int (zsx X (v3 + 1).toNatClampNeg), .int (zsx X (v3 + 2).toNatClampNeg)] w3 (fun x8 w7 => if x4 = x8 then (zRn X d kc ks ML_law 1669 [some (.ref zSc), some (.ref v1), some (.ref v2), some (.int v3)] [] w7 Q) else (Q (some (.int 0)) w7)))))))) :
    zRn X d kc ks ML_law 639 [some (.ref zSc), some (.ref v1), some (.ref v2), some (.int v3)] [] w Q := by
  refine z_aload_n v1 dL_law_639 rfl rfl ?_
  refine z_aload_n zSc dL_law_640 rfl rfl ?_
  refine z_iload_n v3 dL_law_641 rfl rfl ?_
  refine z_iconst 1 dL_law_642 rfl ?_
  refine z_iadd dL_law_643 ?_
  refine z_sld dL_law_644 h.1 ?_
  have h := h.2
  refine z_aload_n zSc dL_law_645 rfl rfl ?_
  refine z_iload_n v3 dL_law_646 rfl rfl ?_
  refine z_iconst 2 dL_law_647 rfl ?_
  refine z_iadd dL_law_648 ?_
  refine z_sld dL_law_649 h.1 ?_
  have h := h.2
  refine zq_VI (N := MX11_rank) (As := [.int (zsx X (v3 + 1).toNatClampNeg), .int (zsx X (v3 + 2).toNatClampNeg)]) m_L_69 dL_law_650 rfl rfl (Nat.le_of_ble_eq_true rfl) h (fun x4 w3 h => ?_)
  refine z_aload_n v2 dL_law_653 rfl rfl ?_
  refine z_aload_n zSc dL_law_654 rfl rfl ?_
  refine z_iload_n v3 dL_law_655 rfl rfl ?_
  refine z_iconst 1 dL_law_656 rfl ?_
  refine z_iadd dL_law_657 ?_
  refine z_sld dL_law_658 h.1 ?_
  have h := h.2
  refine z_aload_n zSc dL_law_659 rfl rfl ?_
  refine z_iload_n v3 dL_law_660 rfl rfl ?_
  refine z_iconst 2 dL_law_661 rfl ?_
  refine z_iadd dL_law_662 ?_
  refine z_sld dL_law_663 h.1 ?_
  have h := h.2
  refine zq_VI (N := MX12_rank) (As := [.int (zsx X (v3 + 1).toNatClampNeg), .int (zsx X (v3 + 2).toNatClampNeg)]) m_L_72 dL_law_664 rfl rfl (Nat.le_of_ble_eq_true rfl) h (fun x8 w7 h => ?_)
  refine z_icmp_eq 1669 dL_law_667 rfl (fun hc => ?_) (fun hc => ?_)
  · rw [if_pos hc] at h
    exact h
  · rw [if_neg hc] at h
    refine z_iconst 0 dL_law_670 rfl ?_
    exact z_ireturn .boolean dL_law_671 rfl rfl h
set_option maxRecDepth 100000 in
set_option maxHeartbeats 4000000 in
theorem bL_law_672 {X : zX} {d kc ks : Nat} {w : zW} {Q : Option Value → zW → Prop} (v1 : Nat) (v2 : Nat) (v3 : Int32)
    (h : vp_in (v3 + 1) (zsL X) ∧ (vp_in (v3 + 2) (zsL X) ∧ (vp_in (v3 + 3) (zsL X) ∧ (zIs w v1 10 ∧ zCallI X d MX11_deep [.ref v1, .int (zsx X (v3 + 1).toNatClampNeg), .int (zsx X (v3 + 2).toNatClampNeg), .int (zsx X (v3 + 3).toNatClampNeg)] w (fun x5 w4 => vp_in (v3 + 1) (zsL X) ∧ (vp_in (v3 + 2) (zsL X) ∧ (vp_in (v3 + 3) (zsL X) ∧ (zIs w4 v2 11 ∧ zCallI X d MX12_deep [.ref v2, .int (zsx X (v3 + 1).toNatClampNeg), .int (zsx X (v3 + 2).toNatClampNeg), .int (zsx X (v3 + 3).toNatClampNeg)] w4 (fun x10 w9 => if x5 = x10 then (zRn X d kc ks ML_law 1669 [some (.ref zSc), some (.ref v1), some (.ref v2), some (.int v3)] [] w9 Q) else (Q (some (.int 0)) w9)))))))))) :
    zRn X d kc ks ML_law 672 [some (.ref zSc), some (.ref v1), some (.ref v2), some (.int v3)] [] w Q := by
  refine z_aload_n v1 dL_law_672 rfl rfl ?_
  refine z_aload_n zSc dL_law_673 rfl rfl ?_
  refine z_iload_n v3 dL_law_674 rfl rfl ?_
  refine z_iconst 1 dL_law_675 rfl ?_
  refine z_iadd dL_law_676 ?_
  refine z_sld dL_law_677 h.1 ?_
  have h := h.2
  refine z_aload_n zSc dL_law_678 rfl rfl ?_
  refine z_iload_n v3 dL_law_679 rfl rfl ?_
  refine z_iconst 2 dL_law_680 rfl ?_
  refine z_iadd dL_law_681 ?_
  refine z_sld dL_law_682 h.1 ?_
  have h := h.2
  refine z_aload_n zSc dL_law_683 rfl rfl ?_
  refine z_iload_n v3 dL_law_684 rfl rfl ?_
  refine z_iconst 3 dL_law_685 rfl ?_
  refine z_iadd dL_law_686 ?_
  refine z_sld dL_law_687 h.1 ?_
  have h := h.2
  refine zq_VI (N := MX11_deep) (As := [.int (zsx X (v3 + 1).toNatClampNeg), .int (zsx X (v3 + 2).toNatClampNeg), .int (zsx X (v3 + 3).toNatClampNeg)]) m_L_73 dL_law_688 rfl rfl (Nat.le_of_ble_eq_true rfl) h (fun x5 w4 h => ?_)
  refine z_aload_n v2 dL_law_691 rfl rfl ?_
  refine z_aload_n zSc dL_law_692 rfl rfl ?_
  refine z_iload_n v3 dL_law_693 rfl rfl ?_
  refine z_iconst 1 dL_law_694 rfl ?_
  refine z_iadd dL_law_695 ?_
  refine z_sld dL_law_696 h.1 ?_
  have h := h.2
  refine z_aload_n zSc dL_law_697 rfl rfl ?_
  refine z_iload_n v3 dL_law_698 rfl rfl ?_
  refine z_iconst 2 dL_law_699 rfl ?_
  refine z_iadd dL_law_700 ?_
  refine z_sld dL_law_701 h.1 ?_
  have h := h.2
  refine z_aload_n zSc dL_law_702 rfl rfl ?_
  refine z_iload_n v3 dL_law_703 rfl rfl ?_
  refine z_iconst 3 dL_law_704 rfl ?_
  refine z_iadd dL_law_705 ?_
  refine z_sld dL_law_706 h.1 ?_
  have h := h.2
  refine zq_VI (N := MX12_deep) (As := [.int (zsx X (v3 + 1).toNatClampNeg), .int (zsx X (v3 + 2).toNatClampNeg), .int (zsx X (v3 + 3).toNatClampNeg)]) m_L_76 dL_law_707 rfl rfl (Nat.le_of_ble_eq_true rfl) h (fun x10 w9 h => ?_)
  refine z_icmp_eq 1669 dL_law_710 rfl (fun hc => ?_) (fun hc => ?_)
  · rw [if_pos hc] at h
    exact h
  · rw [if_neg hc] at h
    refine z_iconst 0 dL_law_713 rfl ?_
    exact z_ireturn .boolean dL_law_714 rfl rfl h
set_option maxRecDepth 100000 in
set_option maxHeartbeats 4000000 in
theorem bL_law_715 {X : zX} {d kc ks : Nat} {w : zW} {Q : Option Value → zW → Prop} (v1 : Nat) (v2 : Nat) (v3 : Int32)
    (h : vp_in (v3 + 1) (zsL X) ∧ (vp_in (v3 + 2) (zsL X) ∧ (zIs w v1 10 ∧ zCallI X d MX11_through [.ref v1, .int (zsx X (v3 + 1).toNatClampNeg), .int (zsx X (v3 + 2).toNatClampNeg)] w (fun x4 w3 => vp_in (v3 + 1) (zsL X) ∧ (vp_in (v3 + 2) (zsL X) ∧ (zIs w3 v2 11 ∧ zCallI X d MX12_through [.ref v2, .int (zsx X (v3 + 1).toNatClampNeg), .int (zsx X (v3 + 2).toNatClampNeg)] w3 (fun x8 w7 => if x4 = x8 then (zRn X d kc ks ML_law 1669 [some (.ref zSc), some (.ref v1), some (.ref v2), some (.int v3)] [] w7 Q) else (Q (some (.int 0)) w7)))))))) :
    zRn X d kc ks ML_law 715 [some (.ref zSc), some (.ref v1), some (.ref v2), some (.int v3)] [] w Q := by
  refine z_aload_n v1 dL_law_715 rfl rfl ?_
  refine z_aload_n zSc dL_law_716 rfl rfl ?_
  refine z_iload_n v3 dL_law_717 rfl rfl ?_
  refine z_iconst 1 dL_law_718 rfl ?_
  refine z_iadd dL_law_719 ?_
  refine z_sld dL_law_720 h.1 ?_
  have h := h.2
  refine z_aload_n zSc dL_law_721 rfl rfl ?_
  refine z_iload_n v3 dL_law_722 rfl rfl ?_
  refine z_iconst 2 dL_law_723 rfl ?_
  refine z_iadd dL_law_724 ?_
  refine z_sld dL_law_725 h.1 ?_
  have h := h.2
  refine zq_VI (N := MX11_through) (As := [.int (zsx X (v3 + 1).toNatClampNeg), .int (zsx X (v3 + 2).toNatClampNeg)]) m_L_77 dL_law_726 rfl rfl (Nat.le_of_ble_eq_true rfl) h (fun x4 w3 h => ?_)
  refine z_aload_n v2 dL_law_729 rfl rfl ?_
  refine z_aload_n zSc dL_law_730 rfl rfl ?_
  refine z_iload_n v3 dL_law_731 rfl rfl ?_
  refine z_iconst 1 dL_law_732 rfl ?_
  refine z_iadd dL_law_733 ?_
  refine z_sld dL_law_734 h.1 ?_
  have h := h.2
  refine z_aload_n zSc dL_law_735 rfl rfl ?_
  refine z_iload_n v3 dL_law_736 rfl rfl ?_
  refine z_iconst 2 dL_law_737 rfl ?_
  refine z_iadd dL_law_738 ?_
  refine z_sld dL_law_739 h.1 ?_
  have h := h.2
  refine zq_VI (N := MX12_through) (As := [.int (zsx X (v3 + 1).toNatClampNeg), .int (zsx X (v3 + 2).toNatClampNeg)]) m_L_80 dL_law_740 rfl rfl (Nat.le_of_ble_eq_true rfl) h (fun x8 w7 h => ?_)
  refine z_icmp_eq 1669 dL_law_743 rfl (fun hc => ?_) (fun hc => ?_)
  · rw [if_pos hc] at h
    exact h
  · rw [if_neg hc] at h
    refine z_iconst 0 dL_law_746 rfl ?_
    exact z_ireturn .boolean dL_law_747 rfl rfl h
set_option maxRecDepth 100000 in
set_option maxHeartbeats 4000000 in
theorem bL_law_748 {X : zX} {d kc ks : Nat} {w : zW} {Q : Option Value → zW → Prop} (v1 : Nat) (v2 : Nat) (v3 : Int32)
    (h : vp_in (v3 + 1) (zsL X) ∧ (vp_in (v3 + 2) (zsL X) ∧ (vp_in (v3 + 3) (zsL X) ∧ (zIs w v1 10 ∧ zCallI X d MX11_before [.ref v1, .int (zsx X (v3 + 1).toNatClampNeg), .int (zsx X (v3 + 2).toNatClampNeg), .int (zsx X (v3 + 3).toNatClampNeg)] w (fun x5 w4 => vp_in (v3 + 1) (zsL X) ∧ (vp_in (v3 + 2) (zsL X) ∧ (vp_in (v3 + 3) (zsL X) ∧ (zIs w4 v2 11 ∧ zCallI X d MX12_before [.ref v2, .int (zsx X (v3 + 1).toNatClampNeg), .int (zsx X (v3 + 2).toNatClampNeg), .int (zsx X (v3 + 3).toNatClampNeg)] w4 (fun x10 w9 => if x5 = x10 then (zRn X d kc ks ML_law 1669 [some (.ref zSc), some (.ref v1), some (.ref v2), some (.int v3)] [] w9 Q) else (Q (some (.int 0)) w9)))))))))) :
    zRn X d kc ks ML_law 748 [some (.ref zSc), some (.ref v1), some (.ref v2), some (.int v3)] [] w Q := by
  refine z_aload_n v1 dL_law_748 rfl rfl ?_
  refine z_aload_n zSc dL_law_749 rfl rfl ?_
  refine z_iload_n v3 dL_law_750 rfl rfl ?_
  refine z_iconst 1 dL_law_751 rfl ?_
  refine z_iadd dL_law_752 ?_
  refine z_sld dL_law_753 h.1 ?_
  have h := h.2
  refine z_aload_n zSc dL_law_754 rfl rfl ?_
  refine z_iload_n v3 dL_law_755 rfl rfl ?_
  refine z_iconst 2 dL_law_756 rfl ?_
  refine z_iadd dL_law_757 ?_
  refine z_sld dL_law_758 h.1 ?_
  have h := h.2
  refine z_aload_n zSc dL_law_759 rfl rfl ?_
  refine z_iload_n v3 dL_law_760 rfl rfl ?_
  refine z_iconst 3 dL_law_761 rfl ?_
  refine z_iadd dL_law_762 ?_
  refine z_sld dL_law_763 h.1 ?_
  have h := h.2
  refine zq_VI (N := MX11_before) (As := [.int (zsx X (v3 + 1).toNatClampNeg), .int (zsx X (v3 + 2).toNatClampNeg), .int (zsx X (v3 + 3).toNatClampNeg)]) m_L_81 dL_law_764 rfl rfl (Nat.le_of_ble_eq_true rfl) h (fun x5 w4 h => ?_)
  refine z_aload_n v2 dL_law_767 rfl rfl ?_
  refine z_aload_n zSc dL_law_768 rfl rfl ?_
  refine z_iload_n v3 dL_law_769 rfl rfl ?_
  refine z_iconst 1 dL_law_770 rfl ?_
  refine z_iadd dL_law_771 ?_
  refine z_sld dL_law_772 h.1 ?_
  have h := h.2
  refine z_aload_n zSc dL_law_773 rfl rfl ?_
  refine z_iload_n v3 dL_law_774 rfl rfl ?_
  refine z_iconst 2 dL_law_775 rfl ?_
  refine z_iadd dL_law_776 ?_
  refine z_sld dL_law_777 h.1 ?_
  have h := h.2
  refine z_aload_n zSc dL_law_778 rfl rfl ?_
  refine z_iload_n v3 dL_law_779 rfl rfl ?_
  refine z_iconst 3 dL_law_780 rfl ?_
  refine z_iadd dL_law_781 ?_
  refine z_sld dL_law_782 h.1 ?_
  have h := h.2
  refine zq_VI (N := MX12_before) (As := [.int (zsx X (v3 + 1).toNatClampNeg), .int (zsx X (v3 + 2).toNatClampNeg), .int (zsx X (v3 + 3).toNatClampNeg)]) m_L_84 dL_law_783 rfl rfl (Nat.le_of_ble_eq_true rfl) h (fun x10 w9 h => ?_)
  refine z_icmp_eq 1669 dL_law_786 rfl (fun hc => ?_) (fun hc => ?_)
  · rw [if_pos hc] at h
    exact h
  · rw [if_neg hc] at h
    refine z_iconst 0 dL_law_789 rfl ?_
    exact z_ireturn .boolean dL_law_790 rfl rfl h
set_option maxRecDepth 100000 in
set_option maxHeartbeats 4000000 in
theorem bL_law_791 {X : zX} {d kc ks : Nat} {w : zW} {Q : Option Value → zW → Prop} (v1 : Nat) (v2 : Nat) (v3 : Int32)
    (h : vp_in (v3 + 1) (zsL X) ∧ (vp_in (v3 + 2) (zsL X) ∧ (vp_in (v3 + 3) (zsL X) ∧ (zIs w v1 10 ∧ zCallI X d MX11_at [.ref v1, .int (zsx X (v3 + 1).toNatClampNeg), .int (zsx X (v3 + 2).toNatClampNeg), .int (zsx X (v3 + 3).toNatClampNeg)] w (fun x5 w4 => vp_in (v3 + 1) (zsL X) ∧ (vp_in (v3 + 2) (zsL X) ∧ (vp_in (v3 + 3) (zsL X) ∧ (zIs w4 v2 11 ∧ zCallI X d MX12_at [.ref v2, .int (zsx X (v3 + 1).toNatClampNeg), .int (zsx X (v3 + 2).toNatClampNeg), .int (zsx X (v3 + 3).toNatClampNeg)] w4 (fun x10 w9 => if x5 = x10 then (zRn X d kc ks ML_law 1669 [some (.ref zSc), some (.ref v1), some (.ref v2), some (.int v3)] [] w9 Q) else (Q (some (.int 0)) w9)))))))))) :
    zRn X d kc ks ML_law 791 [some (.ref zSc), some (.ref v1), some (.ref v2), some (.int v3)] [] w Q := by
  refine z_aload_n v1 dL_law_791 rfl rfl ?_
  refine z_aload_n zSc dL_law_792 rfl rfl ?_
  refine z_iload_n v3 dL_law_793 rfl rfl ?_
  refine z_iconst 1 dL_law_794 rfl ?_
  refine z_iadd dL_law_795 ?_
  refine z_sld dL_law_796 h.1 ?_
  have h := h.2
  refine z_aload_n zSc dL_law_797 rfl rfl ?_
  refine z_iload_n v3 dL_law_798 rfl rfl ?_
  refine z_iconst 2 dL_law_799 rfl ?_
  refine z_iadd dL_law_800 ?_
  refine z_sld dL_law_801 h.1 ?_
  have h := h.2
  refine z_aload_n zSc dL_law_802 rfl rfl ?_
  refine z_iload_n v3 dL_law_803 rfl rfl ?_
  refine z_iconst 3 dL_law_804 rfl ?_
  refine z_iadd dL_law_805 ?_
  refine z_sld dL_law_806 h.1 ?_
  have h := h.2
  refine zq_VI (N := MX11_at) (As := [.int (zsx X (v3 + 1).toNatClampNeg), .int (zsx X (v3 + 2).toNatClampNeg), .int (zsx X (v3 + 3).toNatClampNeg)]) m_L_85 dL_law_807 rfl rfl (Nat.le_of_ble_eq_true rfl) h (fun x5 w4 h => ?_)
  refine z_aload_n v2 dL_law_810 rfl rfl ?_
  refine z_aload_n zSc dL_law_811 rfl rfl ?_
  refine z_iload_n v3 dL_law_812 rfl rfl ?_
  refine z_iconst 1 dL_law_813 rfl ?_
  refine z_iadd dL_law_814 ?_
  refine z_sld dL_law_815 h.1 ?_
  have h := h.2
  refine z_aload_n zSc dL_law_816 rfl rfl ?_
  refine z_iload_n v3 dL_law_817 rfl rfl ?_
  refine z_iconst 2 dL_law_818 rfl ?_
  refine z_iadd dL_law_819 ?_
  refine z_sld dL_law_820 h.1 ?_
  have h := h.2
  refine z_aload_n zSc dL_law_821 rfl rfl ?_
  refine z_iload_n v3 dL_law_822 rfl rfl ?_
  refine z_iconst 3 dL_law_823 rfl ?_
  refine z_iadd dL_law_824 ?_
  refine z_sld dL_law_825 h.1 ?_
  have h := h.2
  refine zq_VI (N := MX12_at) (As := [.int (zsx X (v3 + 1).toNatClampNeg), .int (zsx X (v3 + 2).toNatClampNeg), .int (zsx X (v3 + 3).toNatClampNeg)]) m_L_88 dL_law_826 rfl rfl (Nat.le_of_ble_eq_true rfl) h (fun x10 w9 h => ?_)
  refine z_icmp_eq 1669 dL_law_829 rfl (fun hc => ?_) (fun hc => ?_)
  · rw [if_pos hc] at h
    exact h
  · rw [if_neg hc] at h
    refine z_iconst 0 dL_law_832 rfl ?_
    exact z_ireturn .boolean dL_law_833 rfl rfl h
set_option maxRecDepth 100000 in
set_option maxHeartbeats 4000000 in
theorem bL_law_834 {X : zX} {d kc ks : Nat} {w : zW} {Q : Option Value → zW → Prop} (v1 : Nat) (v2 : Nat) (v3 : Int32)
    (h : vp_in (v3 + 1) (zsL X) ∧ (vp_in (v3 + 2) (zsL X) ∧ (vp_in (v3 + 3) (zsL X) ∧ (zIs w v1 10 ∧ zCallI X d MX11_mean [.ref v1, .int (zsx X (v3 + 1).toNatClampNeg), .int (zsx X (v3 + 2).toNatClampNeg), .int (zsx X (v3 + 3).toNatClampNeg)] w (fun x5 w4 => vp_in (v3 + 1) (zsL X) ∧ (vp_in (v3 + 2) (zsL X) ∧ (vp_in (v3 + 3) (zsL X) ∧ (zIs w4 v2 11 ∧ zCallI X d MX12_mean [.ref v2, .int (zsx X (v3 + 1).toNatClampNeg), .int (zsx X (v3 + 2).toNatClampNeg), .int (zsx X (v3 + 3).toNatClampNeg)] w4 (fun x10 w9 => if x5 = x10 then (zRn X d kc ks ML_law 1669 [some (.ref zSc), some (.ref v1), some (.ref v2), some (.int v3)] [] w9 Q) else (Q (some (.int 0)) w9)))))))))) :
    zRn X d kc ks ML_law 834 [some (.ref zSc), some (.ref v1), some (.ref v2), some (.int v3)] [] w Q := by
  refine z_aload_n v1 dL_law_834 rfl rfl ?_
  refine z_aload_n zSc dL_law_835 rfl rfl ?_
  refine z_iload_n v3 dL_law_836 rfl rfl ?_
  refine z_iconst 1 dL_law_837 rfl ?_
  refine z_iadd dL_law_838 ?_
  refine z_sld dL_law_839 h.1 ?_
  have h := h.2
  refine z_aload_n zSc dL_law_840 rfl rfl ?_
  refine z_iload_n v3 dL_law_841 rfl rfl ?_
  refine z_iconst 2 dL_law_842 rfl ?_
  refine z_iadd dL_law_843 ?_
  refine z_sld dL_law_844 h.1 ?_
  have h := h.2
  refine z_aload_n zSc dL_law_845 rfl rfl ?_
  refine z_iload_n v3 dL_law_846 rfl rfl ?_
  refine z_iconst 3 dL_law_847 rfl ?_
  refine z_iadd dL_law_848 ?_
  refine z_sld dL_law_849 h.1 ?_
  have h := h.2
  refine zq_VI (N := MX11_mean) (As := [.int (zsx X (v3 + 1).toNatClampNeg), .int (zsx X (v3 + 2).toNatClampNeg), .int (zsx X (v3 + 3).toNatClampNeg)]) m_L_89 dL_law_850 rfl rfl (Nat.le_of_ble_eq_true rfl) h (fun x5 w4 h => ?_)
  refine z_aload_n v2 dL_law_853 rfl rfl ?_
  refine z_aload_n zSc dL_law_854 rfl rfl ?_
  refine z_iload_n v3 dL_law_855 rfl rfl ?_
  refine z_iconst 1 dL_law_856 rfl ?_
  refine z_iadd dL_law_857 ?_
  refine z_sld dL_law_858 h.1 ?_
  have h := h.2
  refine z_aload_n zSc dL_law_859 rfl rfl ?_
  refine z_iload_n v3 dL_law_860 rfl rfl ?_
  refine z_iconst 2 dL_law_861 rfl ?_
  refine z_iadd dL_law_862 ?_
  refine z_sld dL_law_863 h.1 ?_
  have h := h.2
  refine z_aload_n zSc dL_law_864 rfl rfl ?_
  refine z_iload_n v3 dL_law_865 rfl rfl ?_
  refine z_iconst 3 dL_law_866 rfl ?_
  refine z_iadd dL_law_867 ?_
  refine z_sld dL_law_868 h.1 ?_
  have h := h.2
  refine zq_VI (N := MX12_mean) (As := [.int (zsx X (v3 + 1).toNatClampNeg), .int (zsx X (v3 + 2).toNatClampNeg), .int (zsx X (v3 + 3).toNatClampNeg)]) m_L_92 dL_law_869 rfl rfl (Nat.le_of_ble_eq_true rfl) h (fun x10 w9 h => ?_)
  refine z_icmp_eq 1669 dL_law_872 rfl (fun hc => ?_) (fun hc => ?_)
  · rw [if_pos hc] at h
    exact h
  · rw [if_neg hc] at h
    refine z_iconst 0 dL_law_875 rfl ?_
    exact z_ireturn .boolean dL_law_876 rfl rfl h
set_option maxRecDepth 100000 in
set_option maxHeartbeats 4000000 in
theorem bL_law_877 {X : zX} {d kc ks : Nat} {w : zW} {Q : Option Value → zW → Prop} (v1 : Nat) (v2 : Nat) (v3 : Int32)
    (h : vp_in (v3 + 1) (zsL X) ∧ (vp_in (v3 + 2) (zsL X) ∧ (zIs w v1 10 ∧ zCallI X d MX11_balance [.ref v1, .int (zsx X (v3 + 1).toNatClampNeg), .int (zsx X (v3 + 2).toNatClampNeg)] w (fun x4 w3 => vp_in (v3 + 1) (zsL X) ∧ (vp_in (v3 + 2) (zsL X) ∧ (zIs w3 v2 11 ∧ zCallI X d MX12_balance [.ref v2, .int (zsx X (v3 + 1).toNatClampNeg), .int (zsx X (v3 + 2).toNatClampNeg)] w3 (fun x8 w7 => if x4 = x8 then (zRn X d kc ks ML_law 1669 [some (.ref zSc), some (.ref v1), some (.ref v2), some (.int v3)] [] w7 Q) else (Q (some (.int 0)) w7)))))))) :
    zRn X d kc ks ML_law 877 [some (.ref zSc), some (.ref v1), some (.ref v2), some (.int v3)] [] w Q := by
  refine z_aload_n v1 dL_law_877 rfl rfl ?_
  refine z_aload_n zSc dL_law_878 rfl rfl ?_
  refine z_iload_n v3 dL_law_879 rfl rfl ?_
  refine z_iconst 1 dL_law_880 rfl ?_
  refine z_iadd dL_law_881 ?_
  refine z_sld dL_law_882 h.1 ?_
  have h := h.2
  refine z_aload_n zSc dL_law_883 rfl rfl ?_
  refine z_iload_n v3 dL_law_884 rfl rfl ?_
  refine z_iconst 2 dL_law_885 rfl ?_
  refine z_iadd dL_law_886 ?_
  refine z_sld dL_law_887 h.1 ?_
  have h := h.2
  refine zq_VI (N := MX11_balance) (As := [.int (zsx X (v3 + 1).toNatClampNeg), .int (zsx X (v3 + 2).toNatClampNeg)]) m_L_93 dL_law_888 rfl rfl (Nat.le_of_ble_eq_true rfl) h (fun x4 w3 h => ?_)
  refine z_aload_n v2 dL_law_891 rfl rfl ?_
  refine z_aload_n zSc dL_law_892 rfl rfl ?_
  refine z_iload_n v3 dL_law_893 rfl rfl ?_
  refine z_iconst 1 dL_law_894 rfl ?_
  refine z_iadd dL_law_895 ?_
  refine z_sld dL_law_896 h.1 ?_
  have h := h.2
  refine z_aload_n zSc dL_law_897 rfl rfl ?_
  refine z_iload_n v3 dL_law_898 rfl rfl ?_
  refine z_iconst 2 dL_law_899 rfl ?_
  refine z_iadd dL_law_900 ?_
  refine z_sld dL_law_901 h.1 ?_
  have h := h.2
  refine zq_VI (N := MX12_balance) (As := [.int (zsx X (v3 + 1).toNatClampNeg), .int (zsx X (v3 + 2).toNatClampNeg)]) m_L_96 dL_law_902 rfl rfl (Nat.le_of_ble_eq_true rfl) h (fun x8 w7 h => ?_)
  refine z_icmp_eq 1669 dL_law_905 rfl (fun hc => ?_) (fun hc => ?_)
  · rw [if_pos hc] at h
    exact h
  · rw [if_neg hc] at h
    refine z_iconst 0 dL_law_908 rfl ?_
    exact z_ireturn .boolean dL_law_909 rfl rfl h
set_option maxRecDepth 100000 in
set_option maxHeartbeats 4000000 in
theorem bL_law_910 {X : zX} {d kc ks : Nat} {w : zW} {Q : Option Value → zW → Prop} (v1 : Nat) (v2 : Nat) (v3 : Int32)
    (h : vp_in (v3 + 1) (zsL X) ∧ (vp_in (v3 + 2) (zsL X) ∧ (zIs w v1 10 ∧ zCallI X d MX11_jumps [.ref v1, .int (zsx X (v3 + 1).toNatClampNeg), .int (zsx X (v3 + 2).toNatClampNeg)] w (fun x4 w3 => vp_in (v3 + 1) (zsL X) ∧ (vp_in (v3 + 2) (zsL X) ∧ (zIs w3 v2 11 ∧ zCallI X d MX12_jumps [.ref v2, .int (zsx X (v3 + 1).toNatClampNeg), .int (zsx X (v3 + 2).toNatClampNeg)] w3 (fun x8 w7 => if x4 = x8 then (zRn X d kc ks ML_law 1669 [some (.ref zSc), some (.ref v1), some (.ref v2), some (.int v3)] [] w7 Q) else (Q (some (.int 0)) w7)))))))) :
    zRn X d kc ks ML_law 910 [some (.ref zSc), some (.ref v1), some (.ref v2), some (.int v3)] [] w Q := by
  refine z_aload_n v1 dL_law_910 rfl rfl ?_
  refine z_aload_n zSc dL_law_911 rfl rfl ?_
  refine z_iload_n v3 dL_law_912 rfl rfl ?_
  refine z_iconst 1 dL_law_913 rfl ?_
  refine z_iadd dL_law_914 ?_
  refine z_sld dL_law_915 h.1 ?_
  have h := h.2
  refine z_aload_n zSc dL_law_916 rfl rfl ?_
  refine z_iload_n v3 dL_law_917 rfl rfl ?_
  refine z_iconst 2 dL_law_918 rfl ?_
  refine z_iadd dL_law_919 ?_
  refine z_sld dL_law_920 h.1 ?_
  have h := h.2
  refine zq_VI (N := MX11_jumps) (As := [.int (zsx X (v3 + 1).toNatClampNeg), .int (zsx X (v3 + 2).toNatClampNeg)]) m_L_97 dL_law_921 rfl rfl (Nat.le_of_ble_eq_true rfl) h (fun x4 w3 h => ?_)
  refine z_aload_n v2 dL_law_924 rfl rfl ?_
  refine z_aload_n zSc dL_law_925 rfl rfl ?_
  refine z_iload_n v3 dL_law_926 rfl rfl ?_
  refine z_iconst 1 dL_law_927 rfl ?_
  refine z_iadd dL_law_928 ?_
  refine z_sld dL_law_929 h.1 ?_
  have h := h.2
  refine z_aload_n zSc dL_law_930 rfl rfl ?_
  refine z_iload_n v3 dL_law_931 rfl rfl ?_
  refine z_iconst 2 dL_law_932 rfl ?_
  refine z_iadd dL_law_933 ?_
  refine z_sld dL_law_934 h.1 ?_
  have h := h.2
  refine zq_VI (N := MX12_jumps) (As := [.int (zsx X (v3 + 1).toNatClampNeg), .int (zsx X (v3 + 2).toNatClampNeg)]) m_L_100 dL_law_935 rfl rfl (Nat.le_of_ble_eq_true rfl) h (fun x8 w7 h => ?_)
  refine z_icmp_eq 1669 dL_law_938 rfl (fun hc => ?_) (fun hc => ?_)
  · rw [if_pos hc] at h
    exact h
  · rw [if_neg hc] at h
    refine z_iconst 0 dL_law_941 rfl ?_
    exact z_ireturn .boolean dL_law_942 rfl rfl h
set_option maxRecDepth 100000 in
set_option maxHeartbeats 4000000 in
theorem bL_law_943 {X : zX} {d kc ks : Nat} {w : zW} {Q : Option Value → zW → Prop} (v1 : Nat) (v2 : Nat) (v3 : Int32)
    (h : vp_in (v3 + 1) (zsL X) ∧ (vp_in (v3 + 2) (zsL X) ∧ (vp_in (v3 + 3) (zsL X) ∧ (zIs w v1 10 ∧ zCallI X d MX11_jumper [.ref v1, .int (zsx X (v3 + 1).toNatClampNeg), .int (zsx X (v3 + 2).toNatClampNeg), .int (zsx X (v3 + 3).toNatClampNeg)] w (fun x5 w4 => vp_in (v3 + 1) (zsL X) ∧ (vp_in (v3 + 2) (zsL X) ∧ (vp_in (v3 + 3) (zsL X) ∧ (zIs w4 v2 11 ∧ zCallI X d MX12_jumper [.ref v2, .int (zsx X (v3 + 1).toNatClampNeg), .int (zsx X (v3 + 2).toNatClampNeg), .int (zsx X (v3 + 3).toNatClampNeg)] w4 (fun x10 w9 => if x5 = x10 then (zRn X d kc ks ML_law 1669 [some (.ref zSc), some (.ref v1), some (.ref v2), some (.int v3)] [] w9 Q) else (Q (some (.int 0)) w9)))))))))) :
    zRn X d kc ks ML_law 943 [some (.ref zSc), some (.ref v1), some (.ref v2), some (.int v3)] [] w Q := by
  refine z_aload_n v1 dL_law_943 rfl rfl ?_
  refine z_aload_n zSc dL_law_944 rfl rfl ?_
  refine z_iload_n v3 dL_law_945 rfl rfl ?_
  refine z_iconst 1 dL_law_946 rfl ?_
  refine z_iadd dL_law_947 ?_
  refine z_sld dL_law_948 h.1 ?_
  have h := h.2
  refine z_aload_n zSc dL_law_949 rfl rfl ?_
  refine z_iload_n v3 dL_law_950 rfl rfl ?_
  refine z_iconst 2 dL_law_951 rfl ?_
  refine z_iadd dL_law_952 ?_
  refine z_sld dL_law_953 h.1 ?_
  have h := h.2
  refine z_aload_n zSc dL_law_954 rfl rfl ?_
  refine z_iload_n v3 dL_law_955 rfl rfl ?_
  refine z_iconst 3 dL_law_956 rfl ?_
  refine z_iadd dL_law_957 ?_
  refine z_sld dL_law_958 h.1 ?_
  have h := h.2
  refine zq_VI (N := MX11_jumper) (As := [.int (zsx X (v3 + 1).toNatClampNeg), .int (zsx X (v3 + 2).toNatClampNeg), .int (zsx X (v3 + 3).toNatClampNeg)]) m_L_101 dL_law_959 rfl rfl (Nat.le_of_ble_eq_true rfl) h (fun x5 w4 h => ?_)
  refine z_aload_n v2 dL_law_962 rfl rfl ?_
  refine z_aload_n zSc dL_law_963 rfl rfl ?_
  refine z_iload_n v3 dL_law_964 rfl rfl ?_
  refine z_iconst 1 dL_law_965 rfl ?_
  refine z_iadd dL_law_966 ?_
  refine z_sld dL_law_967 h.1 ?_
  have h := h.2
  refine z_aload_n zSc dL_law_968 rfl rfl ?_
  refine z_iload_n v3 dL_law_969 rfl rfl ?_
  refine z_iconst 2 dL_law_970 rfl ?_
  refine z_iadd dL_law_971 ?_
  refine z_sld dL_law_972 h.1 ?_
  have h := h.2
  refine z_aload_n zSc dL_law_973 rfl rfl ?_
  refine z_iload_n v3 dL_law_974 rfl rfl ?_
  refine z_iconst 3 dL_law_975 rfl ?_
  refine z_iadd dL_law_976 ?_
  refine z_sld dL_law_977 h.1 ?_
  have h := h.2
  refine zq_VI (N := MX12_jumper) (As := [.int (zsx X (v3 + 1).toNatClampNeg), .int (zsx X (v3 + 2).toNatClampNeg), .int (zsx X (v3 + 3).toNatClampNeg)]) m_L_104 dL_law_978 rfl rfl (Nat.le_of_ble_eq_true rfl) h (fun x10 w9 h => ?_)
  refine z_icmp_eq 1669 dL_law_981 rfl (fun hc => ?_) (fun hc => ?_)
  · rw [if_pos hc] at h
    exact h
  · rw [if_neg hc] at h
    refine z_iconst 0 dL_law_984 rfl ?_
    exact z_ireturn .boolean dL_law_985 rfl rfl h
set_option maxRecDepth 100000 in
set_option maxHeartbeats 4000000 in
theorem bL_law_986 {X : zX} {d kc ks : Nat} {w : zW} {Q : Option Value → zW → Prop} (v1 : Nat) (v2 : Nat) (v3 : Int32)
    (h : vp_in (v3 + 1) (zsL X) ∧ (vp_in (v3 + 2) (zsL X) ∧ (zIs w v1 10 ∧ zCallI X d MX11_jumpsOf [.ref v1, .int (zsx X (v3 + 1).toNatClampNeg), .int (zsx X (v3 + 2).toNatClampNeg)] w (fun x4 w3 => vp_in (v3 + 1) (zsL X) ∧ (vp_in (v3 + 2) (zsL X) ∧ (zIs w3 v2 11 ∧ zCallI X d MX12_jumpsOf [.ref v2, .int (zsx X (v3 + 1).toNatClampNeg), .int (zsx X (v3 + 2).toNatClampNeg)] w3 (fun x8 w7 => if x4 = x8 then (zRn X d kc ks ML_law 1669 [some (.ref zSc), some (.ref v1), some (.ref v2), some (.int v3)] [] w7 Q) else (Q (some (.int 0)) w7)))))))) :
    zRn X d kc ks ML_law 986 [some (.ref zSc), some (.ref v1), some (.ref v2), some (.int v3)] [] w Q := by
  refine z_aload_n v1 dL_law_986 rfl rfl ?_
  refine z_aload_n zSc dL_law_987 rfl rfl ?_
  refine z_iload_n v3 dL_law_988 rfl rfl ?_
  refine z_iconst 1 dL_law_989 rfl ?_
  refine z_iadd dL_law_990 ?_
  refine z_sld dL_law_991 h.1 ?_
  have h := h.2
  refine z_aload_n zSc dL_law_992 rfl rfl ?_
  refine z_iload_n v3 dL_law_993 rfl rfl ?_
  refine z_iconst 2 dL_law_994 rfl ?_
  refine z_iadd dL_law_995 ?_
  refine z_sld dL_law_996 h.1 ?_
  have h := h.2
  refine zq_VI (N := MX11_jumpsOf) (As := [.int (zsx X (v3 + 1).toNatClampNeg), .int (zsx X (v3 + 2).toNatClampNeg)]) m_L_105 dL_law_997 rfl rfl (Nat.le_of_ble_eq_true rfl) h (fun x4 w3 h => ?_)
  refine z_aload_n v2 dL_law_1000 rfl rfl ?_
  refine z_aload_n zSc dL_law_1001 rfl rfl ?_
  refine z_iload_n v3 dL_law_1002 rfl rfl ?_
  refine z_iconst 1 dL_law_1003 rfl ?_
  refine z_iadd dL_law_1004 ?_
  refine z_sld dL_law_1005 h.1 ?_
  have h := h.2
  refine z_aload_n zSc dL_law_1006 rfl rfl ?_
  refine z_iload_n v3 dL_law_1007 rfl rfl ?_
  refine z_iconst 2 dL_law_1008 rfl ?_
  refine z_iadd dL_law_1009 ?_
  refine z_sld dL_law_1010 h.1 ?_
  have h := h.2
  refine zq_VI (N := MX12_jumpsOf) (As := [.int (zsx X (v3 + 1).toNatClampNeg), .int (zsx X (v3 + 2).toNatClampNeg)]) m_L_108 dL_law_1011 rfl rfl (Nat.le_of_ble_eq_true rfl) h (fun x8 w7 h => ?_)
  refine z_icmp_eq 1669 dL_law_1014 rfl (fun hc => ?_) (fun hc => ?_)
  · rw [if_pos hc] at h
    exact h
  · rw [if_neg hc] at h
    refine z_iconst 0 dL_law_1017 rfl ?_
    exact z_ireturn .boolean dL_law_1018 rfl rfl h
set_option maxRecDepth 100000 in
set_option maxHeartbeats 4000000 in
theorem bL_law_1019 {X : zX} {d kc ks : Nat} {w : zW} {Q : Option Value → zW → Prop} (v1 : Nat) (v2 : Nat) (v3 : Int32)
    (h : vp_in (v3 + 1) (zsL X) ∧ (vp_in (v3 + 2) (zsL X) ∧ (zIs w v1 10 ∧ zCallI X d MX11_critical [.ref v1, .int (zsx X (v3 + 1).toNatClampNeg), .int (zsx X (v3 + 2).toNatClampNeg)] w (fun x4 w3 => vp_in (v3 + 1) (zsL X) ∧ (vp_in (v3 + 2) (zsL X) ∧ (zIs w3 v2 11 ∧ zCallI X d MX12_critical [.ref v2, .int (zsx X (v3 + 1).toNatClampNeg), .int (zsx X (v3 + 2).toNatClampNeg)] w3 (fun x8 w7 => if x4 = x8 then (zRn X d kc ks ML_law 1669 [some (.ref zSc), some (.ref v1), some (.ref v2), some (.int v3)] [] w7 Q) else (Q (some (.int 0)) w7)))))))) :
    zRn X d kc ks ML_law 1019 [some (.ref zSc), some (.ref v1), some (.ref v2), some (.int v3)] [] w Q := by
  refine z_aload_n v1 dL_law_1019 rfl rfl ?_
  refine z_aload_n zSc dL_law_1020 rfl rfl ?_
  refine z_iload_n v3 dL_law_1021 rfl rfl ?_
  refine z_iconst 1 dL_law_1022 rfl ?_
  refine z_iadd dL_law_1023 ?_
  refine z_sld dL_law_1024 h.1 ?_
  have h := h.2
  refine z_aload_n zSc dL_law_1025 rfl rfl ?_
  refine z_iload_n v3 dL_law_1026 rfl rfl ?_
  refine z_iconst 2 dL_law_1027 rfl ?_
  refine z_iadd dL_law_1028 ?_
  refine z_sld dL_law_1029 h.1 ?_
  have h := h.2
  refine zq_VI (N := MX11_critical) (As := [.int (zsx X (v3 + 1).toNatClampNeg), .int (zsx X (v3 + 2).toNatClampNeg)]) m_L_109 dL_law_1030 rfl rfl (Nat.le_of_ble_eq_true rfl) h (fun x4 w3 h => ?_)
  refine z_aload_n v2 dL_law_1033 rfl rfl ?_
  refine z_aload_n zSc dL_law_1034 rfl rfl ?_
  refine z_iload_n v3 dL_law_1035 rfl rfl ?_
  refine z_iconst 1 dL_law_1036 rfl ?_
  refine z_iadd dL_law_1037 ?_
  refine z_sld dL_law_1038 h.1 ?_
  have h := h.2
  refine z_aload_n zSc dL_law_1039 rfl rfl ?_
  refine z_iload_n v3 dL_law_1040 rfl rfl ?_
  refine z_iconst 2 dL_law_1041 rfl ?_
  refine z_iadd dL_law_1042 ?_
  refine z_sld dL_law_1043 h.1 ?_
  have h := h.2
  refine zq_VI (N := MX12_critical) (As := [.int (zsx X (v3 + 1).toNatClampNeg), .int (zsx X (v3 + 2).toNatClampNeg)]) m_L_112 dL_law_1044 rfl rfl (Nat.le_of_ble_eq_true rfl) h (fun x8 w7 h => ?_)
  refine z_icmp_eq 1669 dL_law_1047 rfl (fun hc => ?_) (fun hc => ?_)
  · rw [if_pos hc] at h
    exact h
  · rw [if_neg hc] at h
    refine z_iconst 0 dL_law_1050 rfl ?_
    exact z_ireturn .boolean dL_law_1051 rfl rfl h
set_option maxRecDepth 100000 in
set_option maxHeartbeats 4000000 in
theorem bL_law_1052 {X : zX} {d kc ks : Nat} {w : zW} {Q : Option Value → zW → Prop} (v1 : Nat) (v2 : Nat) (v3 : Int32)
    (h : vp_in (v3 + 1) (zsL X) ∧ (vp_in (v3 + 2) (zsL X) ∧ (zIs w v1 10 ∧ zCallI X d MX11_reversed [.ref v1, .int (zsx X (v3 + 1).toNatClampNeg), .int (zsx X (v3 + 2).toNatClampNeg)] w (fun x4 w3 => vp_in (v3 + 1) (zsL X) ∧ (vp_in (v3 + 2) (zsL X) ∧ (zIs w3 v2 11 ∧ zCallI X d MX12_reversed [.ref v2, .int (zsx X (v3 + 1).toNatClampNeg), .int (zsx X (v3 + 2).toNatClampNeg)] w3 (fun x8 w7 => if x4 = x8 then (zRn X d kc ks ML_law 1669 [some (.ref zSc), some (.ref v1), some (.ref v2), some (.int v3)] [] w7 Q) else (Q (some (.int 0)) w7)))))))) :
    zRn X d kc ks ML_law 1052 [some (.ref zSc), some (.ref v1), some (.ref v2), some (.int v3)] [] w Q := by
  refine z_aload_n v1 dL_law_1052 rfl rfl ?_
  refine z_aload_n zSc dL_law_1053 rfl rfl ?_
  refine z_iload_n v3 dL_law_1054 rfl rfl ?_
  refine z_iconst 1 dL_law_1055 rfl ?_
  refine z_iadd dL_law_1056 ?_
  refine z_sld dL_law_1057 h.1 ?_
  have h := h.2
  refine z_aload_n zSc dL_law_1058 rfl rfl ?_
  refine z_iload_n v3 dL_law_1059 rfl rfl ?_
  refine z_iconst 2 dL_law_1060 rfl ?_
  refine z_iadd dL_law_1061 ?_
  refine z_sld dL_law_1062 h.1 ?_
  have h := h.2
  refine zq_VI (N := MX11_reversed) (As := [.int (zsx X (v3 + 1).toNatClampNeg), .int (zsx X (v3 + 2).toNatClampNeg)]) m_L_113 dL_law_1063 rfl rfl (Nat.le_of_ble_eq_true rfl) h (fun x4 w3 h => ?_)
  refine z_aload_n v2 dL_law_1066 rfl rfl ?_
  refine z_aload_n zSc dL_law_1067 rfl rfl ?_
  refine z_iload_n v3 dL_law_1068 rfl rfl ?_
  refine z_iconst 1 dL_law_1069 rfl ?_
  refine z_iadd dL_law_1070 ?_
  refine z_sld dL_law_1071 h.1 ?_
  have h := h.2
  refine z_aload_n zSc dL_law_1072 rfl rfl ?_
  refine z_iload_n v3 dL_law_1073 rfl rfl ?_
  refine z_iconst 2 dL_law_1074 rfl ?_
  refine z_iadd dL_law_1075 ?_
  refine z_sld dL_law_1076 h.1 ?_
  have h := h.2
  refine zq_VI (N := MX12_reversed) (As := [.int (zsx X (v3 + 1).toNatClampNeg), .int (zsx X (v3 + 2).toNatClampNeg)]) m_L_116 dL_law_1077 rfl rfl (Nat.le_of_ble_eq_true rfl) h (fun x8 w7 h => ?_)
  refine z_icmp_eq 1669 dL_law_1080 rfl (fun hc => ?_) (fun hc => ?_)
  · rw [if_pos hc] at h
    exact h
  · rw [if_neg hc] at h
    refine z_iconst 0 dL_law_1083 rfl ?_
    exact z_ireturn .boolean dL_law_1084 rfl rfl h
set_option maxRecDepth 100000 in
set_option maxHeartbeats 4000000 in
theorem bL_law_1085 {X : zX} {d kc ks : Nat} {w : zW} {Q : Option Value → zW → Prop} (v1 : Nat) (v2 : Nat) (v3 : Int32)
    (h : vp_in (v3 + 1) (zsL X) ∧ (vp_in (v3 + 2) (zsL X) ∧ (zIs w v1 10 ∧ zCallI X d MX11_rowsAre [.ref v1, .int (zsx X (v3 + 1).toNatClampNeg), .int (zsx X (v3 + 2).toNatClampNeg)] w (fun x4 w3 => vp_in (v3 + 1) (zsL X) ∧ (vp_in (v3 + 2) (zsL X) ∧ (zIs w3 v2 11 ∧ zCallI X d MX12_rowsAre [.ref v2, .int (zsx X (v3 + 1).toNatClampNeg), .int (zsx X (v3 + 2).toNatClampNeg)] w3 (fun x8 w7 => if x4 = x8 then (zRn X d kc ks ML_law 1669 [some (.ref zSc), some (.ref v1), some (.ref v2), some (.int v3)] [] w7 Q) else (Q (some (.int 0)) w7)))))))) :
    zRn X d kc ks ML_law 1085 [some (.ref zSc), some (.ref v1), some (.ref v2), some (.int v3)] [] w Q := by
  refine z_aload_n v1 dL_law_1085 rfl rfl ?_
  refine z_aload_n zSc dL_law_1086 rfl rfl ?_
  refine z_iload_n v3 dL_law_1087 rfl rfl ?_
  refine z_iconst 1 dL_law_1088 rfl ?_
  refine z_iadd dL_law_1089 ?_
  refine z_sld dL_law_1090 h.1 ?_
  have h := h.2
  refine z_aload_n zSc dL_law_1091 rfl rfl ?_
  refine z_iload_n v3 dL_law_1092 rfl rfl ?_
  refine z_iconst 2 dL_law_1093 rfl ?_
  refine z_iadd dL_law_1094 ?_
  refine z_sld dL_law_1095 h.1 ?_
  have h := h.2
  refine zq_VI (N := MX11_rowsAre) (As := [.int (zsx X (v3 + 1).toNatClampNeg), .int (zsx X (v3 + 2).toNatClampNeg)]) m_L_117 dL_law_1096 rfl rfl (Nat.le_of_ble_eq_true rfl) h (fun x4 w3 h => ?_)
  refine z_aload_n v2 dL_law_1099 rfl rfl ?_
  refine z_aload_n zSc dL_law_1100 rfl rfl ?_
  refine z_iload_n v3 dL_law_1101 rfl rfl ?_
  refine z_iconst 1 dL_law_1102 rfl ?_
  refine z_iadd dL_law_1103 ?_
  refine z_sld dL_law_1104 h.1 ?_
  have h := h.2
  refine z_aload_n zSc dL_law_1105 rfl rfl ?_
  refine z_iload_n v3 dL_law_1106 rfl rfl ?_
  refine z_iconst 2 dL_law_1107 rfl ?_
  refine z_iadd dL_law_1108 ?_
  refine z_sld dL_law_1109 h.1 ?_
  have h := h.2
  refine zq_VI (N := MX12_rowsAre) (As := [.int (zsx X (v3 + 1).toNatClampNeg), .int (zsx X (v3 + 2).toNatClampNeg)]) m_L_120 dL_law_1110 rfl rfl (Nat.le_of_ble_eq_true rfl) h (fun x8 w7 h => ?_)
  refine z_icmp_eq 1669 dL_law_1113 rfl (fun hc => ?_) (fun hc => ?_)
  · rw [if_pos hc] at h
    exact h
  · rw [if_neg hc] at h
    refine z_iconst 0 dL_law_1116 rfl ?_
    exact z_ireturn .boolean dL_law_1117 rfl rfl h
set_option maxRecDepth 100000 in
set_option maxHeartbeats 4000000 in
theorem bL_law_1118 {X : zX} {d kc ks : Nat} {w : zW} {Q : Option Value → zW → Prop} (v1 : Nat) (v2 : Nat) (v3 : Int32)
    (h : vp_in (v3 + 1) (zsL X) ∧ (vp_in (v3 + 2) (zsL X) ∧ (zIs w v1 10 ∧ zCallI X d MX11_ahead [.ref v1, .int (zsx X (v3 + 1).toNatClampNeg), .int (zsx X (v3 + 2).toNatClampNeg)] w (fun x4 w3 => vp_in (v3 + 1) (zsL X) ∧ (vp_in (v3 + 2) (zsL X) ∧ (zIs w3 v2 11 ∧ zCallI X d MX12_ahead [.ref v2, .int (zsx X (v3 + 1).toNatClampNeg), .int (zsx X (v3 + 2).toNatClampNeg)] w3 (fun x8 w7 => if x4 = x8 then (zRn X d kc ks ML_law 1669 [some (.ref zSc), some (.ref v1), some (.ref v2), some (.int v3)] [] w7 Q) else (Q (some (.int 0)) w7)))))))) :
    zRn X d kc ks ML_law 1118 [some (.ref zSc), some (.ref v1), some (.ref v2), some (.int v3)] [] w Q := by
  refine z_aload_n v1 dL_law_1118 rfl rfl ?_
  refine z_aload_n zSc dL_law_1119 rfl rfl ?_
  refine z_iload_n v3 dL_law_1120 rfl rfl ?_
  refine z_iconst 1 dL_law_1121 rfl ?_
  refine z_iadd dL_law_1122 ?_
  refine z_sld dL_law_1123 h.1 ?_
  have h := h.2
  refine z_aload_n zSc dL_law_1124 rfl rfl ?_
  refine z_iload_n v3 dL_law_1125 rfl rfl ?_
  refine z_iconst 2 dL_law_1126 rfl ?_
  refine z_iadd dL_law_1127 ?_
  refine z_sld dL_law_1128 h.1 ?_
  have h := h.2
  refine zq_VI (N := MX11_ahead) (As := [.int (zsx X (v3 + 1).toNatClampNeg), .int (zsx X (v3 + 2).toNatClampNeg)]) m_L_121 dL_law_1129 rfl rfl (Nat.le_of_ble_eq_true rfl) h (fun x4 w3 h => ?_)
  refine z_aload_n v2 dL_law_1132 rfl rfl ?_
  refine z_aload_n zSc dL_law_1133 rfl rfl ?_
  refine z_iload_n v3 dL_law_1134 rfl rfl ?_
  refine z_iconst 1 dL_law_1135 rfl ?_
  refine z_iadd dL_law_1136 ?_
  refine z_sld dL_law_1137 h.1 ?_
  have h := h.2
  refine z_aload_n zSc dL_law_1138 rfl rfl ?_
  refine z_iload_n v3 dL_law_1139 rfl rfl ?_
  refine z_iconst 2 dL_law_1140 rfl ?_
  refine z_iadd dL_law_1141 ?_
  refine z_sld dL_law_1142 h.1 ?_
  have h := h.2
  refine zq_VI (N := MX12_ahead) (As := [.int (zsx X (v3 + 1).toNatClampNeg), .int (zsx X (v3 + 2).toNatClampNeg)]) m_L_124 dL_law_1143 rfl rfl (Nat.le_of_ble_eq_true rfl) h (fun x8 w7 h => ?_)
  refine z_icmp_eq 1669 dL_law_1146 rfl (fun hc => ?_) (fun hc => ?_)
  · rw [if_pos hc] at h
    exact h
  · rw [if_neg hc] at h
    refine z_iconst 0 dL_law_1149 rfl ?_
    exact z_ireturn .boolean dL_law_1150 rfl rfl h
set_option maxRecDepth 100000 in
set_option maxHeartbeats 4000000 in
theorem bL_law_1151 {X : zX} {d kc ks : Nat} {w : zW} {Q : Option Value → zW → Prop} (v1 : Nat) (v2 : Nat) (v3 : Int32)
    (h : vp_in (v3 + 1) (zsL X) ∧ (vp_in (v3 + 2) (zsL X) ∧ (vp_in (v3 + 3) (zsL X) ∧ (zIs w v1 10 ∧ zCallI X d MX11_realizes [.ref v1, .int (zsx X (v3 + 1).toNatClampNeg), .int (zsx X (v3 + 2).toNatClampNeg), .int (zsx X (v3 + 3).toNatClampNeg)] w (fun x5 w4 => vp_in (v3 + 1) (zsL X) ∧ (vp_in (v3 + 2) (zsL X) ∧ (vp_in (v3 + 3) (zsL X) ∧ (zIs w4 v2 11 ∧ zCallI X d MX12_realizes [.ref v2, .int (zsx X (v3 + 1).toNatClampNeg), .int (zsx X (v3 + 2).toNatClampNeg), .int (zsx X (v3 + 3).toNatClampNeg)] w4 (fun x10 w9 => if x5 = x10 then (zRn X d kc ks ML_law 1669 [some (.ref zSc), some (.ref v1), some (.ref v2), some (.int v3)] [] w9 Q) else (Q (some (.int 0)) w9)))))))))) :
    zRn X d kc ks ML_law 1151 [some (.ref zSc), some (.ref v1), some (.ref v2), some (.int v3)] [] w Q := by
  refine z_aload_n v1 dL_law_1151 rfl rfl ?_
  refine z_aload_n zSc dL_law_1152 rfl rfl ?_
  refine z_iload_n v3 dL_law_1153 rfl rfl ?_
  refine z_iconst 1 dL_law_1154 rfl ?_
  refine z_iadd dL_law_1155 ?_
  refine z_sld dL_law_1156 h.1 ?_
  have h := h.2
  refine z_aload_n zSc dL_law_1157 rfl rfl ?_
  refine z_iload_n v3 dL_law_1158 rfl rfl ?_
  refine z_iconst 2 dL_law_1159 rfl ?_
  refine z_iadd dL_law_1160 ?_
  refine z_sld dL_law_1161 h.1 ?_
  have h := h.2
  refine z_aload_n zSc dL_law_1162 rfl rfl ?_
  refine z_iload_n v3 dL_law_1163 rfl rfl ?_
  refine z_iconst 3 dL_law_1164 rfl ?_
  refine z_iadd dL_law_1165 ?_
  refine z_sld dL_law_1166 h.1 ?_
  have h := h.2
  refine zq_VI (N := MX11_realizes) (As := [.int (zsx X (v3 + 1).toNatClampNeg), .int (zsx X (v3 + 2).toNatClampNeg), .int (zsx X (v3 + 3).toNatClampNeg)]) m_L_125 dL_law_1167 rfl rfl (Nat.le_of_ble_eq_true rfl) h (fun x5 w4 h => ?_)
  refine z_aload_n v2 dL_law_1170 rfl rfl ?_
  refine z_aload_n zSc dL_law_1171 rfl rfl ?_
  refine z_iload_n v3 dL_law_1172 rfl rfl ?_
  refine z_iconst 1 dL_law_1173 rfl ?_
  refine z_iadd dL_law_1174 ?_
  refine z_sld dL_law_1175 h.1 ?_
  have h := h.2
  refine z_aload_n zSc dL_law_1176 rfl rfl ?_
  refine z_iload_n v3 dL_law_1177 rfl rfl ?_
  refine z_iconst 2 dL_law_1178 rfl ?_
  refine z_iadd dL_law_1179 ?_
  refine z_sld dL_law_1180 h.1 ?_
  have h := h.2
  refine z_aload_n zSc dL_law_1181 rfl rfl ?_
  refine z_iload_n v3 dL_law_1182 rfl rfl ?_
  refine z_iconst 3 dL_law_1183 rfl ?_
  refine z_iadd dL_law_1184 ?_
  refine z_sld dL_law_1185 h.1 ?_
  have h := h.2
  refine zq_VI (N := MX12_realizes) (As := [.int (zsx X (v3 + 1).toNatClampNeg), .int (zsx X (v3 + 2).toNatClampNeg), .int (zsx X (v3 + 3).toNatClampNeg)]) m_L_128 dL_law_1186 rfl rfl (Nat.le_of_ble_eq_true rfl) h (fun x10 w9 h => ?_)
  refine z_icmp_eq 1669 dL_law_1189 rfl (fun hc => ?_) (fun hc => ?_)
  · rw [if_pos hc] at h
    exact h
  · rw [if_neg hc] at h
    refine z_iconst 0 dL_law_1192 rfl ?_
    exact z_ireturn .boolean dL_law_1193 rfl rfl h
set_option maxRecDepth 100000 in
set_option maxHeartbeats 4000000 in
theorem bL_law_1194 {X : zX} {d kc ks : Nat} {w : zW} {Q : Option Value → zW → Prop} (v1 : Nat) (v2 : Nat) (v3 : Int32)
    (h : vp_in (v3 + 1) (zsL X) ∧ (vp_in (v3 + 2) (zsL X) ∧ (zIs w v1 10 ∧ zCallI X d MX11_dimension [.ref v1, .int (zsx X (v3 + 1).toNatClampNeg), .int (zsx X (v3 + 2).toNatClampNeg)] w (fun x4 w3 => vp_in (v3 + 1) (zsL X) ∧ (vp_in (v3 + 2) (zsL X) ∧ (zIs w3 v2 11 ∧ zCallI X d MX12_dimension [.ref v2, .int (zsx X (v3 + 1).toNatClampNeg), .int (zsx X (v3 + 2).toNatClampNeg)] w3 (fun x8 w7 => if x4 = x8 then (zRn X d kc ks ML_law 1669 [some (.ref zSc), some (.ref v1), some (.ref v2), some (.int v3)] [] w7 Q) else (Q (some (.int 0)) w7)))))))) :
    zRn X d kc ks ML_law 1194 [some (.ref zSc), some (.ref v1), some (.ref v2), some (.int v3)] [] w Q := by
  refine z_aload_n v1 dL_law_1194 rfl rfl ?_
  refine z_aload_n zSc dL_law_1195 rfl rfl ?_
  refine z_iload_n v3 dL_law_1196 rfl rfl ?_
  refine z_iconst 1 dL_law_1197 rfl ?_
  refine z_iadd dL_law_1198 ?_
  refine z_sld dL_law_1199 h.1 ?_
  have h := h.2
  refine z_aload_n zSc dL_law_1200 rfl rfl ?_
  refine z_iload_n v3 dL_law_1201 rfl rfl ?_
  refine z_iconst 2 dL_law_1202 rfl ?_
  refine z_iadd dL_law_1203 ?_
  refine z_sld dL_law_1204 h.1 ?_
  have h := h.2
  refine zq_VI (N := MX11_dimension) (As := [.int (zsx X (v3 + 1).toNatClampNeg), .int (zsx X (v3 + 2).toNatClampNeg)]) m_L_129 dL_law_1205 rfl rfl (Nat.le_of_ble_eq_true rfl) h (fun x4 w3 h => ?_)
  refine z_aload_n v2 dL_law_1208 rfl rfl ?_
  refine z_aload_n zSc dL_law_1209 rfl rfl ?_
  refine z_iload_n v3 dL_law_1210 rfl rfl ?_
  refine z_iconst 1 dL_law_1211 rfl ?_
  refine z_iadd dL_law_1212 ?_
  refine z_sld dL_law_1213 h.1 ?_
  have h := h.2
  refine z_aload_n zSc dL_law_1214 rfl rfl ?_
  refine z_iload_n v3 dL_law_1215 rfl rfl ?_
  refine z_iconst 2 dL_law_1216 rfl ?_
  refine z_iadd dL_law_1217 ?_
  refine z_sld dL_law_1218 h.1 ?_
  have h := h.2
  refine zq_VI (N := MX12_dimension) (As := [.int (zsx X (v3 + 1).toNatClampNeg), .int (zsx X (v3 + 2).toNatClampNeg)]) m_L_132 dL_law_1219 rfl rfl (Nat.le_of_ble_eq_true rfl) h (fun x8 w7 h => ?_)
  refine z_icmp_eq 1669 dL_law_1222 rfl (fun hc => ?_) (fun hc => ?_)
  · rw [if_pos hc] at h
    exact h
  · rw [if_neg hc] at h
    refine z_iconst 0 dL_law_1225 rfl ?_
    exact z_ireturn .boolean dL_law_1226 rfl rfl h
set_option maxRecDepth 100000 in
set_option maxHeartbeats 4000000 in
theorem bL_law_1227 {X : zX} {d kc ks : Nat} {w : zW} {Q : Option Value → zW → Prop} (v1 : Nat) (v2 : Nat) (v3 : Int32)
    (h : vp_in (v3 + 1) (zsL X) ∧ (vp_in (v3 + 2) (zsL X) ∧ (vp_in (v3 + 3) (zsL X) ∧ (zIs w v1 10 ∧ zCallI X d MX11_row [.ref v1, .int (zsx X (v3 + 1).toNatClampNeg), .int (zsx X (v3 + 2).toNatClampNeg), .int (zsx X (v3 + 3).toNatClampNeg)] w (fun x5 w4 => vp_in (v3 + 1) (zsL X) ∧ (vp_in (v3 + 2) (zsL X) ∧ (vp_in (v3 + 3) (zsL X) ∧ (zIs w4 v2 11 ∧ zCallI X d MX12_row [.ref v2, .int (zsx X (v3 + 1).toNatClampNeg), .int (zsx X (v3 + 2).toNatClampNeg), .int (zsx X (v3 + 3).toNatClampNeg)] w4 (fun x10 w9 => if x5 = x10 then (zRn X d kc ks ML_law 1669 [some (.ref zSc), some (.ref v1), some (.ref v2), some (.int v3)] [] w9 Q) else (Q (some (.int 0)) w9)))))))))) :
    zRn X d kc ks ML_law 1227 [some (.ref zSc), some (.ref v1), some (.ref v2), some (.int v3)] [] w Q := by
  refine z_aload_n v1 dL_law_1227 rfl rfl ?_
  refine z_aload_n zSc dL_law_1228 rfl rfl ?_
  refine z_iload_n v3 dL_law_1229 rfl rfl ?_
  refine z_iconst 1 dL_law_1230 rfl ?_
  refine z_iadd dL_law_1231 ?_
  refine z_sld dL_law_1232 h.1 ?_
  have h := h.2
  refine z_aload_n zSc dL_law_1233 rfl rfl ?_
  refine z_iload_n v3 dL_law_1234 rfl rfl ?_
  refine z_iconst 2 dL_law_1235 rfl ?_
  refine z_iadd dL_law_1236 ?_
  refine z_sld dL_law_1237 h.1 ?_
  have h := h.2
  refine z_aload_n zSc dL_law_1238 rfl rfl ?_
  refine z_iload_n v3 dL_law_1239 rfl rfl ?_
  refine z_iconst 3 dL_law_1240 rfl ?_
  refine z_iadd dL_law_1241 ?_
  refine z_sld dL_law_1242 h.1 ?_
  have h := h.2
  refine zq_VI (N := MX11_row) (As := [.int (zsx X (v3 + 1).toNatClampNeg), .int (zsx X (v3 + 2).toNatClampNeg), .int (zsx X (v3 + 3).toNatClampNeg)]) m_L_133 dL_law_1243 rfl rfl (Nat.le_of_ble_eq_true rfl) h (fun x5 w4 h => ?_)
  refine z_aload_n v2 dL_law_1246 rfl rfl ?_
  refine z_aload_n zSc dL_law_1247 rfl rfl ?_
  refine z_iload_n v3 dL_law_1248 rfl rfl ?_
  refine z_iconst 1 dL_law_1249 rfl ?_
  refine z_iadd dL_law_1250 ?_
  refine z_sld dL_law_1251 h.1 ?_
  have h := h.2
  refine z_aload_n zSc dL_law_1252 rfl rfl ?_
  refine z_iload_n v3 dL_law_1253 rfl rfl ?_
  refine z_iconst 2 dL_law_1254 rfl ?_
  refine z_iadd dL_law_1255 ?_
  refine z_sld dL_law_1256 h.1 ?_
  have h := h.2
  refine z_aload_n zSc dL_law_1257 rfl rfl ?_
  refine z_iload_n v3 dL_law_1258 rfl rfl ?_
  refine z_iconst 3 dL_law_1259 rfl ?_
  refine z_iadd dL_law_1260 ?_
  refine z_sld dL_law_1261 h.1 ?_
  have h := h.2
  refine zq_VI (N := MX12_row) (As := [.int (zsx X (v3 + 1).toNatClampNeg), .int (zsx X (v3 + 2).toNatClampNeg), .int (zsx X (v3 + 3).toNatClampNeg)]) m_L_136 dL_law_1262 rfl rfl (Nat.le_of_ble_eq_true rfl) h (fun x10 w9 h => ?_)
  refine z_icmp_eq 1669 dL_law_1265 rfl (fun hc => ?_) (fun hc => ?_)
  · rw [if_pos hc] at h
    exact h
  · rw [if_neg hc] at h
    refine z_iconst 0 dL_law_1268 rfl ?_
    exact z_ireturn .boolean dL_law_1269 rfl rfl h
set_option maxRecDepth 100000 in
set_option maxHeartbeats 4000000 in
theorem bL_law_1270 {X : zX} {d kc ks : Nat} {w : zW} {Q : Option Value → zW → Prop} (v1 : Nat) (v2 : Nat) (v3 : Int32)
    (h : vp_in (v3 + 1) (zsL X) ∧ (vp_in (v3 + 2) (zsL X) ∧ (zIs w v1 10 ∧ zCallI X d MX11_adds [.ref v1, .int (zsx X (v3 + 1).toNatClampNeg), .int (zsx X (v3 + 2).toNatClampNeg)] w (fun x4 w3 => vp_in (v3 + 1) (zsL X) ∧ (vp_in (v3 + 2) (zsL X) ∧ (zIs w3 v2 11 ∧ zCallI X d MX12_adds [.ref v2, .int (zsx X (v3 + 1).toNatClampNeg), .int (zsx X (v3 + 2).toNatClampNeg)] w3 (fun x8 w7 => if x4 = x8 then (zRn X d kc ks ML_law 1669 [some (.ref zSc), some (.ref v1), some (.ref v2), some (.int v3)] [] w7 Q) else (Q (some (.int 0)) w7)))))))) :
    zRn X d kc ks ML_law 1270 [some (.ref zSc), some (.ref v1), some (.ref v2), some (.int v3)] [] w Q := by
  refine z_aload_n v1 dL_law_1270 rfl rfl ?_
  refine z_aload_n zSc dL_law_1271 rfl rfl ?_
  refine z_iload_n v3 dL_law_1272 rfl rfl ?_
  refine z_iconst 1 dL_law_1273 rfl ?_
  refine z_iadd dL_law_1274 ?_
  refine z_sld dL_law_1275 h.1 ?_
  have h := h.2
  refine z_aload_n zSc dL_law_1276 rfl rfl ?_
  refine z_iload_n v3 dL_law_1277 rfl rfl ?_
  refine z_iconst 2 dL_law_1278 rfl ?_
  refine z_iadd dL_law_1279 ?_
  refine z_sld dL_law_1280 h.1 ?_
  have h := h.2
  refine zq_VI (N := MX11_adds) (As := [.int (zsx X (v3 + 1).toNatClampNeg), .int (zsx X (v3 + 2).toNatClampNeg)]) m_L_137 dL_law_1281 rfl rfl (Nat.le_of_ble_eq_true rfl) h (fun x4 w3 h => ?_)
  refine z_aload_n v2 dL_law_1284 rfl rfl ?_
  refine z_aload_n zSc dL_law_1285 rfl rfl ?_
  refine z_iload_n v3 dL_law_1286 rfl rfl ?_
  refine z_iconst 1 dL_law_1287 rfl ?_
  refine z_iadd dL_law_1288 ?_
  refine z_sld dL_law_1289 h.1 ?_
  have h := h.2
  refine z_aload_n zSc dL_law_1290 rfl rfl ?_
  refine z_iload_n v3 dL_law_1291 rfl rfl ?_
  refine z_iconst 2 dL_law_1292 rfl ?_
  refine z_iadd dL_law_1293 ?_
  refine z_sld dL_law_1294 h.1 ?_
  have h := h.2
  refine zq_VI (N := MX12_adds) (As := [.int (zsx X (v3 + 1).toNatClampNeg), .int (zsx X (v3 + 2).toNatClampNeg)]) m_L_140 dL_law_1295 rfl rfl (Nat.le_of_ble_eq_true rfl) h (fun x8 w7 h => ?_)
  refine z_icmp_eq 1669 dL_law_1298 rfl (fun hc => ?_) (fun hc => ?_)
  · rw [if_pos hc] at h
    exact h
  · rw [if_neg hc] at h
    refine z_iconst 0 dL_law_1301 rfl ?_
    exact z_ireturn .boolean dL_law_1302 rfl rfl h
set_option maxRecDepth 100000 in
set_option maxHeartbeats 4000000 in
theorem bL_law_1303 {X : zX} {d kc ks : Nat} {w : zW} {Q : Option Value → zW → Prop} (v1 : Nat) (v2 : Nat) (v3 : Int32)
    (h : vp_in (v3 + 1) (zsL X) ∧ (vp_in (v3 + 2) (zsL X) ∧ (zIs w v1 10 ∧ zCallI X d MX11_takes [.ref v1, .int (zsx X (v3 + 1).toNatClampNeg), .int (zsx X (v3 + 2).toNatClampNeg)] w (fun x4 w3 => vp_in (v3 + 1) (zsL X) ∧ (vp_in (v3 + 2) (zsL X) ∧ (zIs w3 v2 11 ∧ zCallI X d MX12_takes [.ref v2, .int (zsx X (v3 + 1).toNatClampNeg), .int (zsx X (v3 + 2).toNatClampNeg)] w3 (fun x8 w7 => if x4 = x8 then (zRn X d kc ks ML_law 1669 [some (.ref zSc), some (.ref v1), some (.ref v2), some (.int v3)] [] w7 Q) else (Q (some (.int 0)) w7)))))))) :
    zRn X d kc ks ML_law 1303 [some (.ref zSc), some (.ref v1), some (.ref v2), some (.int v3)] [] w Q := by
  refine z_aload_n v1 dL_law_1303 rfl rfl ?_
  refine z_aload_n zSc dL_law_1304 rfl rfl ?_
  refine z_iload_n v3 dL_law_1305 rfl rfl ?_
  refine z_iconst 1 dL_law_1306 rfl ?_
  refine z_iadd dL_law_1307 ?_
  refine z_sld dL_law_1308 h.1 ?_
  have h := h.2
  refine z_aload_n zSc dL_law_1309 rfl rfl ?_
  refine z_iload_n v3 dL_law_1310 rfl rfl ?_
  refine z_iconst 2 dL_law_1311 rfl ?_
  refine z_iadd dL_law_1312 ?_
  refine z_sld dL_law_1313 h.1 ?_
  have h := h.2
  refine zq_VI (N := MX11_takes) (As := [.int (zsx X (v3 + 1).toNatClampNeg), .int (zsx X (v3 + 2).toNatClampNeg)]) m_L_141 dL_law_1314 rfl rfl (Nat.le_of_ble_eq_true rfl) h (fun x4 w3 h => ?_)
  refine z_aload_n v2 dL_law_1317 rfl rfl ?_
  refine z_aload_n zSc dL_law_1318 rfl rfl ?_
  refine z_iload_n v3 dL_law_1319 rfl rfl ?_
  refine z_iconst 1 dL_law_1320 rfl ?_
  refine z_iadd dL_law_1321 ?_
  refine z_sld dL_law_1322 h.1 ?_
  have h := h.2
  refine z_aload_n zSc dL_law_1323 rfl rfl ?_
  refine z_iload_n v3 dL_law_1324 rfl rfl ?_
  refine z_iconst 2 dL_law_1325 rfl ?_
  refine z_iadd dL_law_1326 ?_
  refine z_sld dL_law_1327 h.1 ?_
  have h := h.2
  refine zq_VI (N := MX12_takes) (As := [.int (zsx X (v3 + 1).toNatClampNeg), .int (zsx X (v3 + 2).toNatClampNeg)]) m_L_144 dL_law_1328 rfl rfl (Nat.le_of_ble_eq_true rfl) h (fun x8 w7 h => ?_)
  refine z_icmp_eq 1669 dL_law_1331 rfl (fun hc => ?_) (fun hc => ?_)
  · rw [if_pos hc] at h
    exact h
  · rw [if_neg hc] at h
    refine z_iconst 0 dL_law_1334 rfl ?_
    exact z_ireturn .boolean dL_law_1335 rfl rfl h
set_option maxRecDepth 100000 in
set_option maxHeartbeats 4000000 in
theorem bL_law_1336 {X : zX} {d kc ks : Nat} {w : zW} {Q : Option Value → zW → Prop} (v1 : Nat) (v2 : Nat) (v3 : Int32)
    (h : vp_in (v3 + 1) (zsL X) ∧ (vp_in (v3 + 2) (zsL X) ∧ (vp_in (v3 + 3) (zsL X) ∧ (zIs w v1 10 ∧ zCallI X d MX11_puts [.ref v1, .int (zsx X (v3 + 1).toNatClampNeg), .int (zsx X (v3 + 2).toNatClampNeg), .int (zsx X (v3 + 3).toNatClampNeg)] w (fun x5 w4 => vp_in (v3 + 1) (zsL X) ∧ (vp_in (v3 + 2) (zsL X) ∧ (vp_in (v3 + 3) (zsL X) ∧ (zIs w4 v2 11 ∧ zCallI X d MX12_puts [.ref v2, .int (zsx X (v3 + 1).toNatClampNeg), .int (zsx X (v3 + 2).toNatClampNeg), .int (zsx X (v3 + 3).toNatClampNeg)] w4 (fun x10 w9 => if x5 = x10 then (zRn X d kc ks ML_law 1669 [some (.ref zSc), some (.ref v1), some (.ref v2), some (.int v3)] [] w9 Q) else (Q (some (.int 0)) w9)))))))))) :
    zRn X d kc ks ML_law 1336 [some (.ref zSc), some (.ref v1), some (.ref v2), some (.int v3)] [] w Q := by
  refine z_aload_n v1 dL_law_1336 rfl rfl ?_
  refine z_aload_n zSc dL_law_1337 rfl rfl ?_
  refine z_iload_n v3 dL_law_1338 rfl rfl ?_
  refine z_iconst 1 dL_law_1339 rfl ?_
  refine z_iadd dL_law_1340 ?_
  refine z_sld dL_law_1341 h.1 ?_
  have h := h.2
  refine z_aload_n zSc dL_law_1342 rfl rfl ?_
  refine z_iload_n v3 dL_law_1343 rfl rfl ?_
  refine z_iconst 2 dL_law_1344 rfl ?_
  refine z_iadd dL_law_1345 ?_
  refine z_sld dL_law_1346 h.1 ?_
  have h := h.2
  refine z_aload_n zSc dL_law_1347 rfl rfl ?_
  refine z_iload_n v3 dL_law_1348 rfl rfl ?_
  refine z_iconst 3 dL_law_1349 rfl ?_
  refine z_iadd dL_law_1350 ?_
  refine z_sld dL_law_1351 h.1 ?_
  have h := h.2
  refine zq_VI (N := MX11_puts) (As := [.int (zsx X (v3 + 1).toNatClampNeg), .int (zsx X (v3 + 2).toNatClampNeg), .int (zsx X (v3 + 3).toNatClampNeg)]) m_L_145 dL_law_1352 rfl rfl (Nat.le_of_ble_eq_true rfl) h (fun x5 w4 h => ?_)
  refine z_aload_n v2 dL_law_1355 rfl rfl ?_
  refine z_aload_n zSc dL_law_1356 rfl rfl ?_
  refine z_iload_n v3 dL_law_1357 rfl rfl ?_
  refine z_iconst 1 dL_law_1358 rfl ?_
  refine z_iadd dL_law_1359 ?_
  refine z_sld dL_law_1360 h.1 ?_
  have h := h.2
  refine z_aload_n zSc dL_law_1361 rfl rfl ?_
  refine z_iload_n v3 dL_law_1362 rfl rfl ?_
  refine z_iconst 2 dL_law_1363 rfl ?_
  refine z_iadd dL_law_1364 ?_
  refine z_sld dL_law_1365 h.1 ?_
  have h := h.2
  refine z_aload_n zSc dL_law_1366 rfl rfl ?_
  refine z_iload_n v3 dL_law_1367 rfl rfl ?_
  refine z_iconst 3 dL_law_1368 rfl ?_
  refine z_iadd dL_law_1369 ?_
  refine z_sld dL_law_1370 h.1 ?_
  have h := h.2
  refine zq_VI (N := MX12_puts) (As := [.int (zsx X (v3 + 1).toNatClampNeg), .int (zsx X (v3 + 2).toNatClampNeg), .int (zsx X (v3 + 3).toNatClampNeg)]) m_L_148 dL_law_1371 rfl rfl (Nat.le_of_ble_eq_true rfl) h (fun x10 w9 h => ?_)
  refine z_icmp_eq 1669 dL_law_1374 rfl (fun hc => ?_) (fun hc => ?_)
  · rw [if_pos hc] at h
    exact h
  · rw [if_neg hc] at h
    refine z_iconst 0 dL_law_1377 rfl ?_
    exact z_ireturn .boolean dL_law_1378 rfl rfl h
set_option maxRecDepth 100000 in
set_option maxHeartbeats 4000000 in
theorem bL_law_1379 {X : zX} {d kc ks : Nat} {w : zW} {Q : Option Value → zW → Prop} (v1 : Nat) (v2 : Nat) (v3 : Int32)
    (h : vp_in (v3 + 1) (zsL X) ∧ (vp_in (v3 + 2) (zsL X) ∧ (vp_in (v3 + 3) (zsL X) ∧ (zIs w v1 10 ∧ zCallI X d MX11_cuts [.ref v1, .int (zsx X (v3 + 1).toNatClampNeg), .int (zsx X (v3 + 2).toNatClampNeg), .int (zsx X (v3 + 3).toNatClampNeg)] w (fun x5 w4 => vp_in (v3 + 1) (zsL X) ∧ (vp_in (v3 + 2) (zsL X) ∧ (vp_in (v3 + 3) (zsL X) ∧ (zIs w4 v2 11 ∧ zCallI X d MX12_cuts [.ref v2, .int (zsx X (v3 + 1).toNatClampNeg), .int (zsx X (v3 + 2).toNatClampNeg), .int (zsx X (v3 + 3).toNatClampNeg)] w4 (fun x10 w9 => if x5 = x10 then (zRn X d kc ks ML_law 1669 [some (.ref zSc), some (.ref v1), some (.ref v2), some (.int v3)] [] w9 Q) else (Q (some (.int 0)) w9)))))))))) :
    zRn X d kc ks ML_law 1379 [some (.ref zSc), some (.ref v1), some (.ref v2), some (.int v3)] [] w Q := by
  refine z_aload_n v1 dL_law_1379 rfl rfl ?_
  refine z_aload_n zSc dL_law_1380 rfl rfl ?_
  refine z_iload_n v3 dL_law_1381 rfl rfl ?_
  refine z_iconst 1 dL_law_1382 rfl ?_
  refine z_iadd dL_law_1383 ?_
  refine z_sld dL_law_1384 h.1 ?_
  have h := h.2
  refine z_aload_n zSc dL_law_1385 rfl rfl ?_
  refine z_iload_n v3 dL_law_1386 rfl rfl ?_
  refine z_iconst 2 dL_law_1387 rfl ?_
  refine z_iadd dL_law_1388 ?_
  refine z_sld dL_law_1389 h.1 ?_
  have h := h.2
  refine z_aload_n zSc dL_law_1390 rfl rfl ?_
  refine z_iload_n v3 dL_law_1391 rfl rfl ?_
  refine z_iconst 3 dL_law_1392 rfl ?_
  refine z_iadd dL_law_1393 ?_
  refine z_sld dL_law_1394 h.1 ?_
  have h := h.2
  refine zq_VI (N := MX11_cuts) (As := [.int (zsx X (v3 + 1).toNatClampNeg), .int (zsx X (v3 + 2).toNatClampNeg), .int (zsx X (v3 + 3).toNatClampNeg)]) m_L_149 dL_law_1395 rfl rfl (Nat.le_of_ble_eq_true rfl) h (fun x5 w4 h => ?_)
  refine z_aload_n v2 dL_law_1398 rfl rfl ?_
  refine z_aload_n zSc dL_law_1399 rfl rfl ?_
  refine z_iload_n v3 dL_law_1400 rfl rfl ?_
  refine z_iconst 1 dL_law_1401 rfl ?_
  refine z_iadd dL_law_1402 ?_
  refine z_sld dL_law_1403 h.1 ?_
  have h := h.2
  refine z_aload_n zSc dL_law_1404 rfl rfl ?_
  refine z_iload_n v3 dL_law_1405 rfl rfl ?_
  refine z_iconst 2 dL_law_1406 rfl ?_
  refine z_iadd dL_law_1407 ?_
  refine z_sld dL_law_1408 h.1 ?_
  have h := h.2
  refine z_aload_n zSc dL_law_1409 rfl rfl ?_
  refine z_iload_n v3 dL_law_1410 rfl rfl ?_
  refine z_iconst 3 dL_law_1411 rfl ?_
  refine z_iadd dL_law_1412 ?_
  refine z_sld dL_law_1413 h.1 ?_
  have h := h.2
  refine zq_VI (N := MX12_cuts) (As := [.int (zsx X (v3 + 1).toNatClampNeg), .int (zsx X (v3 + 2).toNatClampNeg), .int (zsx X (v3 + 3).toNatClampNeg)]) m_L_152 dL_law_1414 rfl rfl (Nat.le_of_ble_eq_true rfl) h (fun x10 w9 h => ?_)
  refine z_icmp_eq 1669 dL_law_1417 rfl (fun hc => ?_) (fun hc => ?_)
  · rw [if_pos hc] at h
    exact h
  · rw [if_neg hc] at h
    refine z_iconst 0 dL_law_1420 rfl ?_
    exact z_ireturn .boolean dL_law_1421 rfl rfl h
set_option maxRecDepth 100000 in
set_option maxHeartbeats 4000000 in
theorem bL_law_1422 {X : zX} {d kc ks : Nat} {w : zW} {Q : Option Value → zW → Prop} (v1 : Nat) (v2 : Nat) (v3 : Int32)
    (h : vp_in (v3 + 1) (zsL X) ∧ (zIs w v1 10 ∧ zCallI X d MX11_flip [.ref v1, .int (zsx X (v3 + 1).toNatClampNeg)] w (fun x3 w2 => vp_in (v3 + 1) (zsL X) ∧ (zIs w2 v2 11 ∧ zCallI X d MX12_flip [.ref v2, .int (zsx X (v3 + 1).toNatClampNeg)] w2 (fun x6 w5 => if x3 = x6 then (zRn X d kc ks ML_law 1669 [some (.ref zSc), some (.ref v1), some (.ref v2), some (.int v3)] [] w5 Q) else (Q (some (.int 0)) w5)))))) :
    zRn X d kc ks ML_law 1422 [some (.ref zSc), some (.ref v1), some (.ref v2), some (.int v3)] [] w Q := by
  refine z_aload_n v1 dL_law_1422 rfl rfl ?_
  refine z_aload_n zSc dL_law_1423 rfl rfl ?_
  refine z_iload_n v3 dL_law_1424 rfl rfl ?_
  refine z_iconst 1 dL_law_1425 rfl ?_
  refine z_iadd dL_law_1426 ?_
  refine z_sld dL_law_1427 h.1 ?_
  have h := h.2
  refine zq_VI (N := MX11_flip) (As := [.int (zsx X (v3 + 1).toNatClampNeg)]) m_L_153 dL_law_1428 rfl rfl (Nat.le_of_ble_eq_true rfl) h (fun x3 w2 h => ?_)
  refine z_aload_n v2 dL_law_1431 rfl rfl ?_
  refine z_aload_n zSc dL_law_1432 rfl rfl ?_
  refine z_iload_n v3 dL_law_1433 rfl rfl ?_
  refine z_iconst 1 dL_law_1434 rfl ?_
  refine z_iadd dL_law_1435 ?_
  refine z_sld dL_law_1436 h.1 ?_
  have h := h.2
  refine zq_VI (N := MX12_flip) (As := [.int (zsx X (v3 + 1).toNatClampNeg)]) m_L_156 dL_law_1437 rfl rfl (Nat.le_of_ble_eq_true rfl) h (fun x6 w5 h => ?_)
  refine z_icmp_eq 1669 dL_law_1440 rfl (fun hc => ?_) (fun hc => ?_)
  · rw [if_pos hc] at h
    exact h
  · rw [if_neg hc] at h
    refine z_iconst 0 dL_law_1443 rfl ?_
    exact z_ireturn .boolean dL_law_1444 rfl rfl h
set_option maxRecDepth 100000 in
set_option maxHeartbeats 4000000 in
theorem bL_law_1445 {X : zX} {d kc ks : Nat} {w : zW} {Q : Option Value → zW → Prop} (v1 : Nat) (v2 : Nat) (v3 : Int32)
    (h : vp_in (v3 + 1) (zsL X) ∧ (vp_in (v3 + 2) (zsL X) ∧ (zIs w v1 10 ∧ zCallI X d MX11_without [.ref v1, .int (zsx X (v3 + 1).toNatClampNeg), .int (zsx X (v3 + 2).toNatClampNeg)] w (fun x4 w3 => vp_in (v3 + 1) (zsL X) ∧ (vp_in (v3 + 2) (zsL X) ∧ (zIs w3 v2 11 ∧ zCallI X d MX12_without [.ref v2, .int (zsx X (v3 + 1).toNatClampNeg), .int (zsx X (v3 + 2).toNatClampNeg)] w3 (fun x8 w7 => if x4 = x8 then (zRn X d kc ks ML_law 1669 [some (.ref zSc), some (.ref v1), some (.ref v2), some (.int v3)] [] w7 Q) else (Q (some (.int 0)) w7)))))))) :
    zRn X d kc ks ML_law 1445 [some (.ref zSc), some (.ref v1), some (.ref v2), some (.int v3)] [] w Q := by
  refine z_aload_n v1 dL_law_1445 rfl rfl ?_
  refine z_aload_n zSc dL_law_1446 rfl rfl ?_
  refine z_iload_n v3 dL_law_1447 rfl rfl ?_
  refine z_iconst 1 dL_law_1448 rfl ?_
  refine z_iadd dL_law_1449 ?_
  refine z_sld dL_law_1450 h.1 ?_
  have h := h.2
  refine z_aload_n zSc dL_law_1451 rfl rfl ?_
  refine z_iload_n v3 dL_law_1452 rfl rfl ?_
  refine z_iconst 2 dL_law_1453 rfl ?_
  refine z_iadd dL_law_1454 ?_
  refine z_sld dL_law_1455 h.1 ?_
  have h := h.2
  refine zq_VI (N := MX11_without) (As := [.int (zsx X (v3 + 1).toNatClampNeg), .int (zsx X (v3 + 2).toNatClampNeg)]) m_L_157 dL_law_1456 rfl rfl (Nat.le_of_ble_eq_true rfl) h (fun x4 w3 h => ?_)
  refine z_aload_n v2 dL_law_1459 rfl rfl ?_
  refine z_aload_n zSc dL_law_1460 rfl rfl ?_
  refine z_iload_n v3 dL_law_1461 rfl rfl ?_
  refine z_iconst 1 dL_law_1462 rfl ?_
  refine z_iadd dL_law_1463 ?_
  refine z_sld dL_law_1464 h.1 ?_
  have h := h.2
  refine z_aload_n zSc dL_law_1465 rfl rfl ?_
  refine z_iload_n v3 dL_law_1466 rfl rfl ?_
  refine z_iconst 2 dL_law_1467 rfl ?_
  refine z_iadd dL_law_1468 ?_
  refine z_sld dL_law_1469 h.1 ?_
  have h := h.2
  refine zq_VI (N := MX12_without) (As := [.int (zsx X (v3 + 1).toNatClampNeg), .int (zsx X (v3 + 2).toNatClampNeg)]) m_L_160 dL_law_1470 rfl rfl (Nat.le_of_ble_eq_true rfl) h (fun x8 w7 h => ?_)
  refine z_icmp_eq 1669 dL_law_1473 rfl (fun hc => ?_) (fun hc => ?_)
  · rw [if_pos hc] at h
    exact h
  · rw [if_neg hc] at h
    refine z_iconst 0 dL_law_1476 rfl ?_
    exact z_ireturn .boolean dL_law_1477 rfl rfl h
set_option maxRecDepth 100000 in
set_option maxHeartbeats 4000000 in
theorem bL_law_1478 {X : zX} {d kc ks : Nat} {w : zW} {Q : Option Value → zW → Prop} (v1 : Nat) (v2 : Nat) (v3 : Int32)
    (h : vp_in (v3 + 1) (zsL X) ∧ (vp_in (v3 + 2) (zsL X) ∧ (vp_in (v3 + 3) (zsL X) ∧ (vp_in (v3 + 4) (zsL X) ∧ (zIs w v1 10 ∧ zCallI X d MX11_joins [.ref v1, .int (zsx X (v3 + 1).toNatClampNeg), .int (zsx X (v3 + 2).toNatClampNeg), .int (zsx X (v3 + 3).toNatClampNeg), .int (zsx X (v3 + 4).toNatClampNeg)] w (fun x6 w5 => vp_in (v3 + 1) (zsL X) ∧ (vp_in (v3 + 2) (zsL X) ∧ (vp_in (v3 + 3) (zsL X) ∧ (vp_in (v3 + 4) (zsL X) ∧ (zIs w5 v2 11 ∧ zCallI X d MX12_joins [.ref v2, .int (zsx X (v3 + 1).toNatClampNeg), .int (zsx X (v3 + 2).toNatClampNeg), .int (zsx X (v3 + 3).toNatClampNeg), .int (zsx X (v3 + 4).toNatClampNeg)] w5 (fun x12 w11 => if x6 = x12 then (zRn X d kc ks ML_law 1669 [some (.ref zSc), some (.ref v1), some (.ref v2), some (.int v3)] [] w11 Q) else (Q (some (.int 0)) w11)))))))))))) :
    zRn X d kc ks ML_law 1478 [some (.ref zSc), some (.ref v1), some (.ref v2), some (.int v3)] [] w Q := by
  refine z_aload_n v1 dL_law_1478 rfl rfl ?_
  refine z_aload_n zSc dL_law_1479 rfl rfl ?_
  refine z_iload_n v3 dL_law_1480 rfl rfl ?_
  refine z_iconst 1 dL_law_1481 rfl ?_
  refine z_iadd dL_law_1482 ?_
  refine z_sld dL_law_1483 h.1 ?_
  have h := h.2
  refine z_aload_n zSc dL_law_1484 rfl rfl ?_
  refine z_iload_n v3 dL_law_1485 rfl rfl ?_
  refine z_iconst 2 dL_law_1486 rfl ?_
  refine z_iadd dL_law_1487 ?_
  refine z_sld dL_law_1488 h.1 ?_
  have h := h.2
  refine z_aload_n zSc dL_law_1489 rfl rfl ?_
  refine z_iload_n v3 dL_law_1490 rfl rfl ?_
  refine z_iconst 3 dL_law_1491 rfl ?_
  refine z_iadd dL_law_1492 ?_
  refine z_sld dL_law_1493 h.1 ?_
  have h := h.2
  refine z_aload_n zSc dL_law_1494 rfl rfl ?_
  refine z_iload_n v3 dL_law_1495 rfl rfl ?_
  refine z_iconst 4 dL_law_1496 rfl ?_
  refine z_iadd dL_law_1497 ?_
  refine z_sld dL_law_1498 h.1 ?_
  have h := h.2
  refine zq_VI (N := MX11_joins) (As := [.int (zsx X (v3 + 1).toNatClampNeg), .int (zsx X (v3 + 2).toNatClampNeg), .int (zsx X (v3 + 3).toNatClampNeg), .int (zsx X (v3 + 4).toNatClampNeg)]) m_L_161 dL_law_1499 rfl rfl (Nat.le_of_ble_eq_true rfl) h (fun x6 w5 h => ?_)
  refine z_aload_n v2 dL_law_1502 rfl rfl ?_
  refine z_aload_n zSc dL_law_1503 rfl rfl ?_
  refine z_iload_n v3 dL_law_1504 rfl rfl ?_
  refine z_iconst 1 dL_law_1505 rfl ?_
  refine z_iadd dL_law_1506 ?_
  refine z_sld dL_law_1507 h.1 ?_
  have h := h.2
  refine z_aload_n zSc dL_law_1508 rfl rfl ?_
  refine z_iload_n v3 dL_law_1509 rfl rfl ?_
  refine z_iconst 2 dL_law_1510 rfl ?_
  refine z_iadd dL_law_1511 ?_
  refine z_sld dL_law_1512 h.1 ?_
  have h := h.2
  refine z_aload_n zSc dL_law_1513 rfl rfl ?_
  refine z_iload_n v3 dL_law_1514 rfl rfl ?_
  refine z_iconst 3 dL_law_1515 rfl ?_
  refine z_iadd dL_law_1516 ?_
  refine z_sld dL_law_1517 h.1 ?_
  have h := h.2
  refine z_aload_n zSc dL_law_1518 rfl rfl ?_
  refine z_iload_n v3 dL_law_1519 rfl rfl ?_
  refine z_iconst 4 dL_law_1520 rfl ?_
  refine z_iadd dL_law_1521 ?_
  refine z_sld dL_law_1522 h.1 ?_
  have h := h.2
  refine zq_VI (N := MX12_joins) (As := [.int (zsx X (v3 + 1).toNatClampNeg), .int (zsx X (v3 + 2).toNatClampNeg), .int (zsx X (v3 + 3).toNatClampNeg), .int (zsx X (v3 + 4).toNatClampNeg)]) m_L_165 dL_law_1523 rfl rfl (Nat.le_of_ble_eq_true rfl) h (fun x12 w11 h => ?_)
  refine z_icmp_eq 1669 dL_law_1526 rfl (fun hc => ?_) (fun hc => ?_)
  · rw [if_pos hc] at h
    exact h
  · rw [if_neg hc] at h
    refine z_iconst 0 dL_law_1529 rfl ?_
    exact z_ireturn .boolean dL_law_1530 rfl rfl h
set_option maxRecDepth 100000 in
set_option maxHeartbeats 4000000 in
theorem bL_law_1531 {X : zX} {d kc ks : Nat} {w : zW} {Q : Option Value → zW → Prop} (v1 : Nat) (v2 : Nat) (v3 : Int32)
    (h : vp_in (v3 + 1) (zsL X) ∧ (vp_in (v3 + 2) (zsL X) ∧ (zIs w v1 10 ∧ zCallI X d MX11_alike [.ref v1, .int (zsx X (v3 + 1).toNatClampNeg), .int (zsx X (v3 + 2).toNatClampNeg)] w (fun x4 w3 => vp_in (v3 + 1) (zsL X) ∧ (vp_in (v3 + 2) (zsL X) ∧ (zIs w3 v2 11 ∧ zCallI X d MX12_alike [.ref v2, .int (zsx X (v3 + 1).toNatClampNeg), .int (zsx X (v3 + 2).toNatClampNeg)] w3 (fun x8 w7 => if x4 = x8 then (zRn X d kc ks ML_law 1669 [some (.ref zSc), some (.ref v1), some (.ref v2), some (.int v3)] [] w7 Q) else (Q (some (.int 0)) w7)))))))) :
    zRn X d kc ks ML_law 1531 [some (.ref zSc), some (.ref v1), some (.ref v2), some (.int v3)] [] w Q := by
  refine z_aload_n v1 dL_law_1531 rfl rfl ?_
  refine z_aload_n zSc dL_law_1532 rfl rfl ?_
  refine z_iload_n v3 dL_law_1533 rfl rfl ?_
  refine z_iconst 1 dL_law_1534 rfl ?_
  refine z_iadd dL_law_1535 ?_
  refine z_sld dL_law_1536 h.1 ?_
  have h := h.2
  refine z_aload_n zSc dL_law_1537 rfl rfl ?_
  refine z_iload_n v3 dL_law_1538 rfl rfl ?_
  refine z_iconst 2 dL_law_1539 rfl ?_
  refine z_iadd dL_law_1540 ?_
  refine z_sld dL_law_1541 h.1 ?_
  have h := h.2
  refine zq_VI (N := MX11_alike) (As := [.int (zsx X (v3 + 1).toNatClampNeg), .int (zsx X (v3 + 2).toNatClampNeg)]) m_L_166 dL_law_1542 rfl rfl (Nat.le_of_ble_eq_true rfl) h (fun x4 w3 h => ?_)
  refine z_aload_n v2 dL_law_1545 rfl rfl ?_
  refine z_aload_n zSc dL_law_1546 rfl rfl ?_
  refine z_iload_n v3 dL_law_1547 rfl rfl ?_
  refine z_iconst 1 dL_law_1548 rfl ?_
  refine z_iadd dL_law_1549 ?_
  refine z_sld dL_law_1550 h.1 ?_
  have h := h.2
  refine z_aload_n zSc dL_law_1551 rfl rfl ?_
  refine z_iload_n v3 dL_law_1552 rfl rfl ?_
  refine z_iconst 2 dL_law_1553 rfl ?_
  refine z_iadd dL_law_1554 ?_
  refine z_sld dL_law_1555 h.1 ?_
  have h := h.2
  refine zq_VI (N := MX12_alike) (As := [.int (zsx X (v3 + 1).toNatClampNeg), .int (zsx X (v3 + 2).toNatClampNeg)]) m_L_169 dL_law_1556 rfl rfl (Nat.le_of_ble_eq_true rfl) h (fun x8 w7 h => ?_)
  refine z_icmp_eq 1669 dL_law_1559 rfl (fun hc => ?_) (fun hc => ?_)
  · rw [if_pos hc] at h
    exact h
  · rw [if_neg hc] at h
    refine z_iconst 0 dL_law_1562 rfl ?_
    exact z_ireturn .boolean dL_law_1563 rfl rfl h
set_option maxRecDepth 100000 in
set_option maxHeartbeats 4000000 in
theorem bL_law_1564 {X : zX} {d kc ks : Nat} {w : zW} {Q : Option Value → zW → Prop} (v1 : Nat) (v2 : Nat) (v3 : Int32)
    (h : vp_in (v3 + 1) (zsL X) ∧ (zIs w v1 10 ∧ zCallI X d MX11_selves [.ref v1, .int (zsx X (v3 + 1).toNatClampNeg)] w (fun x3 w2 => vp_in (v3 + 1) (zsL X) ∧ (zIs w2 v2 11 ∧ zCallI X d MX12_selves [.ref v2, .int (zsx X (v3 + 1).toNatClampNeg)] w2 (fun x6 w5 => if x3 = x6 then (zRn X d kc ks ML_law 1669 [some (.ref zSc), some (.ref v1), some (.ref v2), some (.int v3)] [] w5 Q) else (Q (some (.int 0)) w5)))))) :
    zRn X d kc ks ML_law 1564 [some (.ref zSc), some (.ref v1), some (.ref v2), some (.int v3)] [] w Q := by
  refine z_aload_n v1 dL_law_1564 rfl rfl ?_
  refine z_aload_n zSc dL_law_1565 rfl rfl ?_
  refine z_iload_n v3 dL_law_1566 rfl rfl ?_
  refine z_iconst 1 dL_law_1567 rfl ?_
  refine z_iadd dL_law_1568 ?_
  refine z_sld dL_law_1569 h.1 ?_
  have h := h.2
  refine zq_VI (N := MX11_selves) (As := [.int (zsx X (v3 + 1).toNatClampNeg)]) m_L_170 dL_law_1570 rfl rfl (Nat.le_of_ble_eq_true rfl) h (fun x3 w2 h => ?_)
  refine z_aload_n v2 dL_law_1573 rfl rfl ?_
  refine z_aload_n zSc dL_law_1574 rfl rfl ?_
  refine z_iload_n v3 dL_law_1575 rfl rfl ?_
  refine z_iconst 1 dL_law_1576 rfl ?_
  refine z_iadd dL_law_1577 ?_
  refine z_sld dL_law_1578 h.1 ?_
  have h := h.2
  refine zq_VI (N := MX12_selves) (As := [.int (zsx X (v3 + 1).toNatClampNeg)]) m_L_173 dL_law_1579 rfl rfl (Nat.le_of_ble_eq_true rfl) h (fun x6 w5 h => ?_)
  refine z_icmp_eq 1669 dL_law_1582 rfl (fun hc => ?_) (fun hc => ?_)
  · rw [if_pos hc] at h
    exact h
  · rw [if_neg hc] at h
    refine z_iconst 0 dL_law_1585 rfl ?_
    exact z_ireturn .boolean dL_law_1586 rfl rfl h
set_option maxRecDepth 100000 in
set_option maxHeartbeats 4000000 in
theorem bL_law_1587 {X : zX} {d kc ks : Nat} {w : zW} {Q : Option Value → zW → Prop} (v1 : Nat) (v2 : Nat) (v3 : Int32)
    (h : vp_in (v3 + 1) (zsL X) ∧ (zIs w v1 10 ∧ zCallI X d MX11_drops [.ref v1, .int (zsx X (v3 + 1).toNatClampNeg)] w (fun x3 w2 => vp_in (v3 + 1) (zsL X) ∧ (zIs w2 v2 11 ∧ zCallI X d MX12_drops [.ref v2, .int (zsx X (v3 + 1).toNatClampNeg)] w2 (fun x6 w5 => if x3 = x6 then (zRn X d kc ks ML_law 1669 [some (.ref zSc), some (.ref v1), some (.ref v2), some (.int v3)] [] w5 Q) else (Q (some (.int 0)) w5)))))) :
    zRn X d kc ks ML_law 1587 [some (.ref zSc), some (.ref v1), some (.ref v2), some (.int v3)] [] w Q := by
  refine z_aload_n v1 dL_law_1587 rfl rfl ?_
  refine z_aload_n zSc dL_law_1588 rfl rfl ?_
  refine z_iload_n v3 dL_law_1589 rfl rfl ?_
  refine z_iconst 1 dL_law_1590 rfl ?_
  refine z_iadd dL_law_1591 ?_
  refine z_sld dL_law_1592 h.1 ?_
  have h := h.2
  refine zq_VI (N := MX11_drops) (As := [.int (zsx X (v3 + 1).toNatClampNeg)]) m_L_174 dL_law_1593 rfl rfl (Nat.le_of_ble_eq_true rfl) h (fun x3 w2 h => ?_)
  refine z_aload_n v2 dL_law_1596 rfl rfl ?_
  refine z_aload_n zSc dL_law_1597 rfl rfl ?_
  refine z_iload_n v3 dL_law_1598 rfl rfl ?_
  refine z_iconst 1 dL_law_1599 rfl ?_
  refine z_iadd dL_law_1600 ?_
  refine z_sld dL_law_1601 h.1 ?_
  have h := h.2
  refine zq_VI (N := MX12_drops) (As := [.int (zsx X (v3 + 1).toNatClampNeg)]) m_L_177 dL_law_1602 rfl rfl (Nat.le_of_ble_eq_true rfl) h (fun x6 w5 h => ?_)
  refine z_icmp_eq 1669 dL_law_1605 rfl (fun hc => ?_) (fun hc => ?_)
  · rw [if_pos hc] at h
    exact h
  · rw [if_neg hc] at h
    refine z_iconst 0 dL_law_1608 rfl ?_
    exact z_ireturn .boolean dL_law_1609 rfl rfl h
set_option maxRecDepth 100000 in
set_option maxHeartbeats 4000000 in
theorem bL_law_1610 {X : zX} {d kc ks : Nat} {w : zW} {Q : Option Value → zW → Prop} (v1 : Nat) (v2 : Nat) (v3 : Int32)
    (h : zIs w v1 10 ∧ zCallI X d MX11_undo [.ref v1] w (fun x2 w1 => zIs w1 v2 11 ∧ zCallI X d MX12_undo [.ref v2] w1 (fun x4 w3 => if x2 = x4 then (zRn X d kc ks ML_law 1669 [some (.ref zSc), some (.ref v1), some (.ref v2), some (.int v3)] [] w3 Q) else (Q (some (.int 0)) w3)))) :
    zRn X d kc ks ML_law 1610 [some (.ref zSc), some (.ref v1), some (.ref v2), some (.int v3)] [] w Q := by
  refine z_aload_n v1 dL_law_1610 rfl rfl ?_
  refine zq_VI (N := MX11_undo) (As := []) m_L_178 dL_law_1611 rfl rfl (Nat.le_of_ble_eq_true rfl) h (fun x2 w1 h => ?_)
  refine z_aload_n v2 dL_law_1614 rfl rfl ?_
  refine zq_VI (N := MX12_undo) (As := []) m_L_182 dL_law_1615 rfl rfl (Nat.le_of_ble_eq_true rfl) h (fun x4 w3 h => ?_)
  refine z_icmp_eq 1669 dL_law_1618 rfl (fun hc => ?_) (fun hc => ?_)
  · rw [if_pos hc] at h
    exact h
  · rw [if_neg hc] at h
    refine z_iconst 0 dL_law_1621 rfl ?_
    exact z_ireturn .boolean dL_law_1622 rfl rfl h
set_option maxRecDepth 100000 in
set_option maxHeartbeats 4000000 in
theorem bL_law_1623 {X : zX} {d kc ks : Nat} {w : zW} {Q : Option Value → zW → Prop} (v1 : Nat) (v2 : Nat) (v3 : Int32)
    (h : vp_in (v3 + 1) (zsL X) ∧ (zIs w v1 10 ∧ zCallI X d MX11_tell [.ref v1, .int (zsx X (v3 + 1).toNatClampNeg)] w (fun x3 w2 => vp_in (v3 + 1) (zsL X) ∧ (zIs w2 v2 11 ∧ zCallI X d MX12_tell [.ref v2, .int (zsx X (v3 + 1).toNatClampNeg)] w2 (fun x6 w5 => if x3 = x6 then (zRn X d kc ks ML_law 1669 [some (.ref zSc), some (.ref v1), some (.ref v2), some (.int v3)] [] w5 Q) else (Q (some (.int 0)) w5)))))) :
    zRn X d kc ks ML_law 1623 [some (.ref zSc), some (.ref v1), some (.ref v2), some (.int v3)] [] w Q := by
  refine z_aload_n v1 dL_law_1623 rfl rfl ?_
  refine z_aload_n zSc dL_law_1624 rfl rfl ?_
  refine z_iload_n v3 dL_law_1625 rfl rfl ?_
  refine z_iconst 1 dL_law_1626 rfl ?_
  refine z_iadd dL_law_1627 ?_
  refine z_sld dL_law_1628 h.1 ?_
  have h := h.2
  refine zq_VI (N := MX11_tell) (As := [.int (zsx X (v3 + 1).toNatClampNeg)]) m_L_183 dL_law_1629 rfl rfl (Nat.le_of_ble_eq_true rfl) h (fun x3 w2 h => ?_)
  refine z_aload_n v2 dL_law_1632 rfl rfl ?_
  refine z_aload_n zSc dL_law_1633 rfl rfl ?_
  refine z_iload_n v3 dL_law_1634 rfl rfl ?_
  refine z_iconst 1 dL_law_1635 rfl ?_
  refine z_iadd dL_law_1636 ?_
  refine z_sld dL_law_1637 h.1 ?_
  have h := h.2
  refine zq_VI (N := MX12_tell) (As := [.int (zsx X (v3 + 1).toNatClampNeg)]) m_L_186 dL_law_1638 rfl rfl (Nat.le_of_ble_eq_true rfl) h (fun x6 w5 h => ?_)
  refine z_icmp_eq 1669 dL_law_1641 rfl (fun hc => ?_) (fun hc => ?_)
  · rw [if_pos hc] at h
    exact h
  · rw [if_neg hc] at h
    refine z_iconst 0 dL_law_1644 rfl ?_
    exact z_ireturn .boolean dL_law_1645 rfl rfl h
set_option maxRecDepth 100000 in
set_option maxHeartbeats 4000000 in
theorem bL_law_1646 {X : zX} {d kc ks : Nat} {w : zW} {Q : Option Value → zW → Prop} (v1 : Nat) (v2 : Nat) (v3 : Int32)
    (h : vp_in (v3 + 1) (zsL X) ∧ (zIs w v1 10 ∧ zCallI X d MX11_octet [.ref v1, .int (zsx X (v3 + 1).toNatClampNeg)] w (fun x3 w2 => vp_in (v3 + 1) (zsL X) ∧ (zIs w2 v2 11 ∧ zCallI X d MX12_octet [.ref v2, .int (zsx X (v3 + 1).toNatClampNeg)] w2 (fun x6 w5 => if x3 = x6 then (zRn X d kc ks ML_law 1669 [some (.ref zSc), some (.ref v1), some (.ref v2), some (.int v3)] [] w5 Q) else (Q (some (.int 0)) w5)))))) :
    zRn X d kc ks ML_law 1646 [some (.ref zSc), some (.ref v1), some (.ref v2), some (.int v3)] [] w Q := by
  refine z_aload_n v1 dL_law_1646 rfl rfl ?_
  refine z_aload_n zSc dL_law_1647 rfl rfl ?_
  refine z_iload_n v3 dL_law_1648 rfl rfl ?_
  refine z_iconst 1 dL_law_1649 rfl ?_
  refine z_iadd dL_law_1650 ?_
  refine z_sld dL_law_1651 h.1 ?_
  have h := h.2
  refine zq_VI (N := MX11_octet) (As := [.int (zsx X (v3 + 1).toNatClampNeg)]) m_L_187 dL_law_1652 rfl rfl (Nat.le_of_ble_eq_true rfl) h (fun x3 w2 h => ?_)
  refine z_aload_n v2 dL_law_1655 rfl rfl ?_
  refine z_aload_n zSc dL_law_1656 rfl rfl ?_
  refine z_iload_n v3 dL_law_1657 rfl rfl ?_
  refine z_iconst 1 dL_law_1658 rfl ?_
  refine z_iadd dL_law_1659 ?_
  refine z_sld dL_law_1660 h.1 ?_
  have h := h.2
  refine zq_VI (N := MX12_octet) (As := [.int (zsx X (v3 + 1).toNatClampNeg)]) m_L_190 dL_law_1661 rfl rfl (Nat.le_of_ble_eq_true rfl) h (fun x6 w5 h => ?_)
  refine z_icmp_eq 1669 dL_law_1664 rfl (fun hc => ?_) (fun hc => ?_)
  · rw [if_pos hc] at h
    exact h
  · rw [if_neg hc] at h
    refine z_iconst 0 dL_law_1667 rfl ?_
    exact z_ireturn .boolean dL_law_1668 rfl rfl h
set_option maxRecDepth 100000 in
set_option maxHeartbeats 4000000 in
theorem bL_law_1669 {X : zX} {d kc ks : Nat} {w : zW} {Q : Option Value → zW → Prop} (v1 : Nat) (v2 : Nat) (v3 : Int32)
    (h : zRn X d kc ks ML_law 18 [some (.ref zSc), some (.ref v1), some (.ref v2), some (.int (v3 + 6))] [] w Q) :
    zRn X d kc ks ML_law 1669 [some (.ref zSc), some (.ref v1), some (.ref v2), some (.int v3)] [] w Q := by
  refine z_iinc (i := 3) v3 (v3 + 6) dL_law_1669 rfl rfl (by decide) rfl ?_
  refine z_goto 18 dL_law_1672 rfl ?_
  exact h
