set_option maxRecDepth 100000 in
set_option maxHeartbeats 4000000 in
theorem bX6_init_0 {X : zX} {d kc ks : Nat} {w : zW} {Q : Option Value → zW → Prop} (p0 : Nat)
    (h : 0 < d ∧ ((10 = nI 10 ∧ 10 ≤ 100000 ∧ w.length < zBig ∧ 1 ≤ kc ∧ 10 ≤ ks) ∧ (∃ w2, zsF (w ++ [zR 10 (fun _ => none)]) p0 6 0 (.ref w.length) = some w2 ∧ ((10 = nI 10 ∧ 10 ≤ 100000 ∧ w2.length < zBig ∧ 1 ≤ (kc - 1) ∧ 10 ≤ (ks - 10)) ∧ (∃ w4, zsF (w2 ++ [zI 10 (fun _ => 0)]) p0 6 1 (.ref w2.length) = some w4 ∧ (zRn X d ((kc - 1) - 1) ((ks - 10) - 10) MX6_init 23 [some (.ref p0), some (.int 0)] [] w4 Q)))))) :
    zRn X d kc ks MX6_init 0 [some (.ref p0), none] [] w Q := by
  refine z_aload_n p0 dX6_init_0 rfl rfl ?_
  refine z_objInit g_168 g_127 g_128 dX6_init_1 (Nat.le_of_ble_eq_true rfl) h.1 ?_
  have h := h.2
  refine z_aload_n p0 dX6_init_4 rfl rfl ?_
  refine z_bipush 10 dX6_init_5 rfl ?_
  refine zq_anew (N := 10) g_169 dX6_init_7 h.1 ?_
  have h := h.2
  obtain ⟨w2, e, h⟩ := h
  refine zq_sFf f_X6_11 rfl dX6_init_10 (fun _ => rfl) (fun _ => rfl) e ?_
  refine z_aload_n p0 dX6_init_13 rfl rfl ?_
  refine z_bipush 10 dX6_init_14 rfl ?_
  refine zq_newa (N := 10) g_149 dX6_init_16 h.1 ?_
  have h := h.2
  obtain ⟨w4, e, h⟩ := h
  refine zq_sFf f_X6_17 rfl dX6_init_18 (fun _ => rfl) (fun _ => rfl) e ?_
  refine z_iconst 0 dX6_init_21 rfl ?_
  refine z_istore_n (i := 1) dX6_init_22 rfl (by decide) rfl ?_
  exact h
set_option maxRecDepth 100000 in
set_option maxHeartbeats 4000000 in
theorem bX6_init_23 {X : zX} {d kc ks : Nat} {w : zW} {Q : Option Value → zW → Prop} (v0 : Nat) (v1 : Int32)
    (h : if 10 ≤ v1 then (Q none w) else (∃ r1, zfR w v0 6 0 = some r1 ∧ ((w.length < zBig ∧ 1 ≤ kc ∧ 4 ≤ ks) ∧ (zCallC X d (kc - 1) (ks - 4) MX5_init [.ref w.length] (w ++ [zO 5 [.null, .null, .null, .int 0]]) (fun k3 s4 w2 => ∃ w5, zsR w2 r1 v1 w.length = some w5 ∧ (zRn X d k3 s4 MX6_init 23 [some (.ref v0), some (.int (v1 + 1))] [] w5 Q)))))) :
    zRn X d kc ks MX6_init 23 [some (.ref v0), some (.int v1)] [] w Q := by
  refine z_iload_n v1 dX6_init_23 rfl rfl ?_
  refine z_bipush 10 dX6_init_24 rfl ?_
  refine z_icmp_ge 48 dX6_init_26 rfl (fun hc => ?_) (fun hc => ?_)
  · rw [if_pos hc] at h
    exact z_vreturn dX6_init_48 rfl h
  · rw [if_neg hc] at h
    refine z_aload_n v0 dX6_init_29 rfl rfl ?_
    obtain ⟨r1, e, h⟩ := h
    refine zq_fR f_X6_11 dX6_init_30 e ?_
    refine z_iload_n v1 dX6_init_33 rfl rfl ?_
    refine zq_new n_X6_9 dX6_init_34 h.1 ?_
    have h := h.2
    refine z_dup dX6_init_37 rfl ?_
    refine zq_IC (N := MX5_init) (As := []) m_X6_21 dX6_init_38 rfl rfl (Nat.le_of_ble_eq_true rfl) h (fun k3 s4 w2 h => ?_)
    obtain ⟨w5, e, h⟩ := h
    refine zq_sR dX6_init_41 e ?_
    refine z_iinc (i := 1) v1 (v1 + 1) dX6_init_42 rfl rfl (by decide) rfl ?_
    refine z_goto 23 dX6_init_45 rfl ?_
    exact h
theorem eX6_init {X : zX} {d kc ks : Nat} {w : zW} {Q : Option Value → zW → Prop} (p0 : Nat) (h : zRn X d kc ks MX6_init 0 [some (.ref p0), none] [] w Q) : zEv X d kc ks MX6_init [.ref p0] w Q :=
  zEv.of (by decide) (Nat.le_of_ble_eq_true rfl) (Or.inr (by simp [Value.category])) h
set_option maxRecDepth 100000 in
set_option maxHeartbeats 4000000 in
theorem bX6_keep_0 {X : zX} {d kc ks : Nat} {w : zW} {Q : Option Value → zW → Prop} (p0 : Nat) (a1 : Int32) (p2 : Nat)
    (h : ∃ r1, zfR w p0 6 0 = some r1 ∧ (∃ x2, zfI w p0 6 2 = some x2 ∧ (∃ r3, zaR w r1 x2 = some r3 ∧ (zIs w r3 5 ∧ zCallV X d MX5_copyFrom [.ref r3, .ref p2] w (fun w4 => ∃ r5, zfR w4 p0 6 1 = some r5 ∧ (∃ x6, zfI w4 p0 6 2 = some x6 ∧ (∃ w7, zsI w4 r5 x6 a1 = some w7 ∧ (∃ x8, zfI w7 p0 6 2 = some x8 ∧ (if 10 ≤ (x8 + 1) then (zRn X d kc ks MX6_keep 45 [some (.ref p0), none, none] [.int 0, .ref p0] w7 Q) else (∃ x9, zfI w7 p0 6 2 = some x9 ∧ (zRn X d kc ks MX6_keep 45 [some (.ref p0), none, none] [.int (x9 + 1), .ref p0] w7 Q))))))))))) :
    zRn X d kc ks MX6_keep 0 [some (.ref p0), some (.int a1), some (.ref p2)] [] w Q := by
  refine z_aload_n p0 dX6_keep_0 rfl rfl ?_
  obtain ⟨r1, e, h⟩ := h
  refine zq_fR f_X6_11 dX6_keep_1 e ?_
  refine z_aload_n p0 dX6_keep_4 rfl rfl ?_
  obtain ⟨x2, e, h⟩ := h
  refine zq_fI f_X6_26 dX6_keep_5 e ?_
  obtain ⟨r3, e, h⟩ := h
  refine zq_aR dX6_keep_8 e ?_
  refine z_aload_n p2 dX6_keep_9 rfl rfl ?_
  refine zq_VV (N := MX5_copyFrom) (As := [.ref p2]) m_X6_29 dX6_keep_10 rfl rfl (Nat.le_of_ble_eq_true rfl) h (fun w4 h => ?_)
  refine z_aload_n p0 dX6_keep_13 rfl rfl ?_
  obtain ⟨r5, e, h⟩ := h
  refine zq_fR f_X6_17 dX6_keep_14 e ?_
  refine z_aload_n p0 dX6_keep_17 rfl rfl ?_
  obtain ⟨x6, e, h⟩ := h
  refine zq_fI f_X6_26 dX6_keep_18 e ?_
  refine z_iload_n a1 dX6_keep_21 rfl rfl ?_
  obtain ⟨w7, e, h⟩ := h
  refine zq_sI dX6_keep_22 e ?_
  refine z_aload_n p0 dX6_keep_23 rfl rfl ?_
  refine z_aload_n p0 dX6_keep_24 rfl rfl ?_
  obtain ⟨x8, e, h⟩ := h
  refine zq_fI f_X6_26 dX6_keep_25 e ?_
  refine z_iconst 1 dX6_keep_28 rfl ?_
  refine z_iadd dX6_keep_29 ?_
  refine z_bipush 10 dX6_keep_30 rfl ?_
  refine z_icmp_ge 44 dX6_keep_32 rfl (fun hc => ?_) (fun hc => ?_)
  · rw [if_pos hc] at h
    refine z_iconst 0 dX6_keep_44 rfl ?_
    exact zRn.weak h (zLe_of [true, false, false] (And.intro rfl (And.intro rfl (And.intro rfl (trivial)))))
  · rw [if_neg hc] at h
    refine z_aload_n p0 dX6_keep_35 rfl rfl ?_
    obtain ⟨x9, e, h⟩ := h
    refine zq_fI f_X6_26 dX6_keep_36 e ?_
    refine z_iconst 1 dX6_keep_39 rfl ?_
    refine z_iadd dX6_keep_40 ?_
    refine z_goto 45 dX6_keep_41 rfl ?_
    exact zRn.weak h (zLe_of [true, false, false] (And.intro rfl (And.intro rfl (And.intro rfl (trivial)))))
set_option maxRecDepth 100000 in
set_option maxHeartbeats 4000000 in
theorem bX6_keep_45 {X : zX} {d kc ks : Nat} {w : zW} {Q : Option Value → zW → Prop} (v0 : Nat) (u0 : Int32) (u1 : Nat)
    (h : ∃ w1, zsF w u1 6 2 (.int u0) = some w1 ∧ (∃ x2, zfI w1 v0 6 3 = some x2 ∧ (0 < d ∧ (∃ w3, zsF w1 v0 6 3 (.int (if 10 < (x2 + 1) then 10 else (x2 + 1))) = some w3 ∧ (Q none w3))))) :
    zRn X d kc ks MX6_keep 45 [some (.ref v0), none, none] [.int u0, .ref u1] w Q := by
  obtain ⟨w1, e, h⟩ := h
  refine zq_sF f_X6_26 dX6_keep_45 (fun _ => rfl) (fun _ => rfl) e ?_
  refine z_aload_n v0 dX6_keep_48 rfl rfl ?_
  refine z_aload_n v0 dX6_keep_49 rfl rfl ?_
  obtain ⟨x2, e, h⟩ := h
  refine zq_fI f_X6_22 dX6_keep_50 e ?_
  refine z_iconst 1 dX6_keep_53 rfl ?_
  refine z_iadd dX6_keep_54 ?_
  refine z_bipush 10 dX6_keep_55 rfl ?_
  refine z_mmin g_578 g_453 g_106 g_454 dX6_keep_57 (Nat.le_of_ble_eq_true rfl) h.1 ?_
  have h := h.2
  obtain ⟨w3, e, h⟩ := h
  refine zq_sF f_X6_22 dX6_keep_60 (fun _ => rfl) (fun _ => rfl) e ?_
  exact z_vreturn dX6_keep_63 rfl h
theorem eX6_keep {X : zX} {d kc ks : Nat} {w : zW} {Q : Option Value → zW → Prop} (p0 : Nat) (a1 : Int32) (p2 : Nat) (h : zRn X d kc ks MX6_keep 0 [some (.ref p0), some (.int a1), some (.ref p2)] [] w Q) : zEv X d kc ks MX6_keep [.ref p0, .int a1, .ref p2] w Q :=
  zEv.of (by decide) (Nat.le_of_ble_eq_true rfl) (Or.inr (by simp [Value.category])) h
set_option maxRecDepth 100000 in
set_option maxHeartbeats 4000000 in
theorem bX6_size_0 {X : zX} {d kc ks : Nat} {w : zW} {Q : Option Value → zW → Prop} (p0 : Nat)
    (h : ∃ x1, zfI w p0 6 3 = some x1 ∧ (Q (some (.int x1)) w)) :
    zRn X d kc ks MX6_size 0 [some (.ref p0)] [] w Q := by
  refine z_aload_n p0 dX6_size_0 rfl rfl ?_
  obtain ⟨x1, e, h⟩ := h
  refine zq_fI f_X6_22 dX6_size_1 e ?_
  exact z_ireturn .int dX6_size_4 rfl rfl h
theorem eX6_size {X : zX} {d kc ks : Nat} {w : zW} {Q : Option Value → zW → Prop} (p0 : Nat) (h : zRn X d kc ks MX6_size 0 [some (.ref p0)] [] w Q) : zEv X d kc ks MX6_size [.ref p0] w Q :=
  zEv.of (by decide) (Nat.le_of_ble_eq_true rfl) (Or.inr (by simp [Value.category])) h
set_option maxRecDepth 100000 in
set_option maxHeartbeats 4000000 in
theorem bX6_latestSlot_0 {X : zX} {d kc ks : Nat} {w : zW} {Q : Option Value → zW → Prop} (p0 : Nat)
    (h : ∃ x1, zfI w p0 6 3 = some x1 ∧ (if x1 = 0 then (Q (some (.int (-1))) w) else (∃ r2, zfR w p0 6 1 = some r2 ∧ (zIs w p0 6 ∧ zCallI X d MX6_latest [.ref p0] w (fun x4 w3 => ∃ x5, zaI w3 r2 x4 = some x5 ∧ (Q (some (.int x5)) w3)))))) :
    zRn X d kc ks MX6_latestSlot 0 [some (.ref p0)] [] w Q := by
  refine z_aload_n p0 dX6_latestSlot_0 rfl rfl ?_
  obtain ⟨x1, e, h⟩ := h
  refine zq_fI f_X6_22 dX6_latestSlot_1 e ?_
  refine z_if_ne 11 dX6_latestSlot_4 rfl (fun hc => ?_) (fun hc => ?_)
  · rw [if_neg hc] at h
    refine z_aload_n p0 dX6_latestSlot_11 rfl rfl ?_
    obtain ⟨r2, e, h⟩ := h
    refine zq_fR f_X6_17 dX6_latestSlot_12 e ?_
    refine z_aload_n p0 dX6_latestSlot_15 rfl rfl ?_
    refine zq_VI (N := MX6_latest) (As := []) m_X6_39 dX6_latestSlot_16 rfl rfl (Nat.le_of_ble_eq_true rfl) h (fun x4 w3 h => ?_)
    obtain ⟨x5, e, h⟩ := h
    refine zq_aI dX6_latestSlot_19 e ?_
    exact z_ireturn .int dX6_latestSlot_20 rfl rfl h
  · rw [if_pos hc] at h
    refine z_iconst (-1) dX6_latestSlot_7 rfl ?_
    refine z_goto 20 dX6_latestSlot_8 rfl ?_
    exact z_ireturn .int dX6_latestSlot_20 rfl rfl h
theorem eX6_latestSlot {X : zX} {d kc ks : Nat} {w : zW} {Q : Option Value → zW → Prop} (p0 : Nat) (h : zRn X d kc ks MX6_latestSlot 0 [some (.ref p0)] [] w Q) : zEv X d kc ks MX6_latestSlot [.ref p0] w Q :=
  zEv.of (by decide) (Nat.le_of_ble_eq_true rfl) (Or.inr (by simp [Value.category])) h
set_option maxRecDepth 100000 in
set_option maxHeartbeats 4000000 in
theorem bX6_latest_0 {X : zX} {d kc ks : Nat} {w : zW} {Q : Option Value → zW → Prop} (p0 : Nat)
    (h : ∃ x1, zfI w p0 6 2 = some x1 ∧ (if x1 = 0 then (Q (some (.int 9)) w) else (∃ x2, zfI w p0 6 2 = some x2 ∧ (Q (some (.int (x2 - 1))) w)))) :
    zRn X d kc ks MX6_latest 0 [some (.ref p0)] [] w Q := by
  refine z_aload_n p0 dX6_latest_0 rfl rfl ?_
  obtain ⟨x1, e, h⟩ := h
  refine zq_fI f_X6_26 dX6_latest_1 e ?_
  refine z_if_ne 12 dX6_latest_4 rfl (fun hc => ?_) (fun hc => ?_)
  · rw [if_neg hc] at h
    refine z_aload_n p0 dX6_latest_12 rfl rfl ?_
    obtain ⟨x2, e, h⟩ := h
    refine zq_fI f_X6_26 dX6_latest_13 e ?_
    refine z_iconst 1 dX6_latest_16 rfl ?_
    refine z_isub dX6_latest_17 ?_
    exact z_ireturn .int dX6_latest_18 rfl rfl h
  · rw [if_pos hc] at h
    refine z_bipush 9 dX6_latest_7 rfl ?_
    refine z_goto 18 dX6_latest_9 rfl ?_
    exact z_ireturn .int dX6_latest_18 rfl rfl h
theorem eX6_latest {X : zX} {d kc ks : Nat} {w : zW} {Q : Option Value → zW → Prop} (p0 : Nat) (h : zRn X d kc ks MX6_latest 0 [some (.ref p0)] [] w Q) : zEv X d kc ks MX6_latest [.ref p0] w Q :=
  zEv.of (by decide) (Nat.le_of_ble_eq_true rfl) (Or.inr (by simp [Value.category])) h
set_option maxRecDepth 100000 in
set_option maxHeartbeats 4000000 in
theorem bX6_giveBack_0 {X : zX} {d kc ks : Nat} {w : zW} {Q : Option Value → zW → Prop} (p0 : Nat) (p1 : Nat)
    (h : ∃ x1, zfI w p0 6 3 = some x1 ∧ (if x1 ≤ 0 then (Q none w) else (zIs w p0 6 ∧ zCallI X d MX6_latest [.ref p0] w (fun x3 w2 => ∃ w4, zsF w2 p0 6 2 (.int x3) = some w4 ∧ (∃ r5, zfR w4 p0 6 0 = some r5 ∧ (∃ x6, zfI w4 p0 6 2 = some x6 ∧ (∃ r7, zaR w4 r5 x6 = some r7 ∧ (zIs w4 p1 5 ∧ zCallV X d MX5_copyFrom [.ref p1, .ref r7] w4 (fun w8 => ∃ x9, zfI w8 p0 6 3 = some x9 ∧ (∃ w10, zsF w8 p0 6 3 (.int (x9 - 1)) = some w10 ∧ (Q none w10))))))))))) :
    zRn X d kc ks MX6_giveBack 0 [some (.ref p0), some (.ref p1)] [] w Q := by
  refine z_aload_n p0 dX6_giveBack_0 rfl rfl ?_
  obtain ⟨x1, e, h⟩ := h
  refine zq_fI f_X6_22 dX6_giveBack_1 e ?_
  refine z_if_le 38 dX6_giveBack_4 rfl (fun hc => ?_) (fun hc => ?_)
  · rw [if_pos hc] at h
    exact z_vreturn dX6_giveBack_38 rfl h
  · rw [if_neg hc] at h
    refine z_aload_n p0 dX6_giveBack_7 rfl rfl ?_
    refine z_aload_n p0 dX6_giveBack_8 rfl rfl ?_
    refine zq_VI (N := MX6_latest) (As := []) m_X6_39 dX6_giveBack_9 rfl rfl (Nat.le_of_ble_eq_true rfl) h (fun x3 w2 h => ?_)
    obtain ⟨w4, e, h⟩ := h
    refine zq_sF f_X6_26 dX6_giveBack_12 (fun _ => rfl) (fun _ => rfl) e ?_
    refine z_aload_n p1 dX6_giveBack_15 rfl rfl ?_
    refine z_aload_n p0 dX6_giveBack_16 rfl rfl ?_
    obtain ⟨r5, e, h⟩ := h
    refine zq_fR f_X6_11 dX6_giveBack_17 e ?_
    refine z_aload_n p0 dX6_giveBack_20 rfl rfl ?_
    obtain ⟨x6, e, h⟩ := h
    refine zq_fI f_X6_26 dX6_giveBack_21 e ?_
    obtain ⟨r7, e, h⟩ := h
    refine zq_aR dX6_giveBack_24 e ?_
    refine zq_VV (N := MX5_copyFrom) (As := [.ref r7]) m_X6_29 dX6_giveBack_25 rfl rfl (Nat.le_of_ble_eq_true rfl) h (fun w8 h => ?_)
    refine z_aload_n p0 dX6_giveBack_28 rfl rfl ?_
    refine z_dup dX6_giveBack_29 rfl ?_
    obtain ⟨x9, e, h⟩ := h
    refine zq_fI f_X6_22 dX6_giveBack_30 e ?_
    refine z_iconst 1 dX6_giveBack_33 rfl ?_
    refine z_isub dX6_giveBack_34 ?_
    obtain ⟨w10, e, h⟩ := h
    refine zq_sF f_X6_22 dX6_giveBack_35 (fun _ => rfl) (fun _ => rfl) e ?_
    exact z_vreturn dX6_giveBack_38 rfl h
theorem eX6_giveBack {X : zX} {d kc ks : Nat} {w : zW} {Q : Option Value → zW → Prop} (p0 : Nat) (p1 : Nat) (h : zRn X d kc ks MX6_giveBack 0 [some (.ref p0), some (.ref p1)] [] w Q) : zEv X d kc ks MX6_giveBack [.ref p0, .ref p1] w Q :=
  zEv.of (by decide) (Nat.le_of_ble_eq_true rfl) (Or.inr (by simp [Value.category])) h
