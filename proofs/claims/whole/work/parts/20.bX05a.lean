set_option maxRecDepth 100000 in
set_option maxHeartbeats 4000000 in
theorem bX5_init_0 {X : zX} {d kc ks : Nat} {w : zW} {Q : Option Value → zW → Prop} (p0 : Nat)
    (h : 0 < d ∧ ((8 = nI 8 ∧ 8 ≤ 100000 ∧ w.length < zBig ∧ 1 ≤ kc ∧ 8 ≤ ks) ∧ (∃ w2, zsF (w ++ [zI 8 (fun _ => 0)]) p0 5 0 (.ref w.length) = some w2 ∧ ((8 = nI 8 ∧ 8 ≤ 100000 ∧ w2.length < zBig ∧ 1 ≤ (kc - 1) ∧ 8 ≤ (ks - 8)) ∧ (∃ w4, zsF (w2 ++ [zI 8 (fun _ => 0)]) p0 5 1 (.ref w2.length) = some w4 ∧ ((w4.length < zBig ∧ 1 ≤ ((kc - 1) - 1) ∧ 2 ≤ ((ks - 8) - 8)) ∧ (zCallC X d (((kc - 1) - 1) - 1) (((ks - 8) - 8) - 2) MX8_init [.ref w4.length] (w4 ++ [zO 8 [.null, .int 0]]) (fun k6 s7 w5 => ∃ w8, zsF w5 p0 5 2 (.ref w4.length) = some w8 ∧ (Q none w8))))))))) :
    zRn X d kc ks MX5_init 0 [some (.ref p0)] [] w Q := by
  refine z_aload_n p0 dX5_init_0 rfl rfl ?_
  refine z_objInit g_135 g_127 g_128 dX5_init_1 (Nat.le_of_ble_eq_true rfl) h.1 ?_
  have h := h.2
  refine z_aload_n p0 dX5_init_4 rfl rfl ?_
  refine z_bipush 8 dX5_init_5 rfl ?_
  refine zq_newa (N := 8) g_149 dX5_init_7 h.1 ?_
  have h := h.2
  obtain ⟨w2, e, h⟩ := h
  refine zq_sFf f_X5_9 rfl dX5_init_9 (fun _ => rfl) (fun _ => rfl) e ?_
  refine z_aload_n p0 dX5_init_12 rfl rfl ?_
  refine z_bipush 8 dX5_init_13 rfl ?_
  refine zq_newa (N := 8) g_149 dX5_init_15 h.1 ?_
  have h := h.2
  obtain ⟨w4, e, h⟩ := h
  refine zq_sFf f_X5_15 rfl dX5_init_17 (fun _ => rfl) (fun _ => rfl) e ?_
  refine z_aload_n p0 dX5_init_20 rfl rfl ?_
  refine zq_new n_X5_18 dX5_init_21 h.1 ?_
  have h := h.2
  refine z_dup dX5_init_24 rfl ?_
  refine zq_IC (N := MX8_init) (As := []) m_X5_20 dX5_init_25 rfl rfl (Nat.le_of_ble_eq_true rfl) h (fun k6 s7 w5 h => ?_)
  obtain ⟨w8, e, h⟩ := h
  refine zq_sFf f_X5_21 rfl dX5_init_28 (fun _ => rfl) (fun _ => rfl) e ?_
  exact z_vreturn dX5_init_31 rfl h
theorem eX5_init {X : zX} {d kc ks : Nat} {w : zW} {Q : Option Value → zW → Prop} (p0 : Nat) (h : zRn X d kc ks MX5_init 0 [some (.ref p0)] [] w Q) : zEv X d kc ks MX5_init [.ref p0] w Q :=
  zEv.of (by decide) (Nat.le_of_ble_eq_true rfl) (Or.inr (by simp [Value.category])) h
set_option maxRecDepth 100000 in
set_option maxHeartbeats 4000000 in
theorem bX5_begin_0 {X : zX} {d kc ks : Nat} {w : zW} {Q : Option Value → zW → Prop} (p0 : Nat) (a1 : Int32)
    (h : if a1 < 0 then (zRn X d kc ks MX5_begin 15 [some (.ref p0), none, none] [.ref p0] w Q) else (if 8 < a1 then (zRn X d kc ks MX5_begin 15 [some (.ref p0), none, none] [.ref p0] w Q) else (zRn X d kc ks MX5_begin 16 [some (.ref p0), none, none] [.int a1, .ref p0] w Q))) :
    zRn X d kc ks MX5_begin 0 [some (.ref p0), some (.int a1), none] [] w Q := by
  refine z_aload_n p0 dX5_begin_0 rfl rfl ?_
  refine z_iload_n a1 dX5_begin_1 rfl rfl ?_
  refine z_if_lt 15 dX5_begin_2 rfl (fun hc => ?_) (fun hc => ?_)
  · rw [if_pos hc] at h
    exact zRn.weak h (zLe_of [true, false, true] (And.intro rfl (And.intro rfl (And.intro rfl (trivial)))))
  · rw [if_neg hc] at h
    refine z_iload_n a1 dX5_begin_5 rfl rfl ?_
    refine z_bipush 8 dX5_begin_6 rfl ?_
    refine z_icmp_gt 15 dX5_begin_8 rfl (fun hc => ?_) (fun hc => ?_)
    · rw [if_pos hc] at h
      exact zRn.weak h (zLe_of [true, false, true] (And.intro rfl (And.intro rfl (And.intro rfl (trivial)))))
    · rw [if_neg hc] at h
      refine z_iload_n a1 dX5_begin_11 rfl rfl ?_
      refine z_goto 16 dX5_begin_12 rfl ?_
      exact zRn.weak h (zLe_of [true, false, true] (And.intro rfl (And.intro rfl (And.intro rfl (trivial)))))
set_option maxRecDepth 100000 in
set_option maxHeartbeats 4000000 in
theorem bX5_begin_15 {X : zX} {d kc ks : Nat} {w : zW} {Q : Option Value → zW → Prop} (v0 : Nat) (u0 : Nat)
    (h : zRn X d kc ks MX5_begin 16 [some (.ref v0), none, none] [.int 0, .ref u0] w Q) :
    zRn X d kc ks MX5_begin 15 [some (.ref v0), none, none] [.ref u0] w Q := by
  refine z_iconst 0 dX5_begin_15 rfl ?_
  exact h
set_option maxRecDepth 100000 in
set_option maxHeartbeats 4000000 in
theorem bX5_begin_16 {X : zX} {d kc ks : Nat} {w : zW} {Q : Option Value → zW → Prop} (v0 : Nat) (u0 : Int32) (u1 : Nat)
    (h : ∃ w1, zsF w u1 5 3 (.int u0) = some w1 ∧ (∃ r2, zfR w1 v0 5 2 = some r2 ∧ (zIs w1 r2 8 ∧ zCallV X d MX8_clear [.ref r2] w1 (fun w3 => zRn X d kc ks MX5_begin 28 [some (.ref v0), none, some (.int 0)] [] w3 Q)))) :
    zRn X d kc ks MX5_begin 16 [some (.ref v0), none, none] [.int u0, .ref u1] w Q := by
  obtain ⟨w1, e, h⟩ := h
  refine zq_sF f_X5_25 dX5_begin_16 (fun _ => rfl) (fun _ => rfl) e ?_
  refine z_aload_n v0 dX5_begin_19 rfl rfl ?_
  obtain ⟨r2, e, h⟩ := h
  refine zq_fR f_X5_21 dX5_begin_20 e ?_
  refine zq_VV (N := MX8_clear) (As := []) m_X5_29 dX5_begin_23 rfl rfl (Nat.le_of_ble_eq_true rfl) h (fun w3 h => ?_)
  refine z_iconst 0 dX5_begin_26 rfl ?_
  refine z_istore_n (i := 2) dX5_begin_27 rfl (by decide) rfl ?_
  exact h
set_option maxRecDepth 100000 in
set_option maxHeartbeats 4000000 in
theorem bX5_begin_28 {X : zX} {d kc ks : Nat} {w : zW} {Q : Option Value → zW → Prop} (v0 : Nat) (v2 : Int32)
    (h : if 8 ≤ v2 then (Q none w) else (∃ r1, zfR w v0 5 0 = some r1 ∧ (∃ w2, zsI w r1 v2 0 = some w2 ∧ (∃ r3, zfR w2 v0 5 1 = some r3 ∧ (∃ w4, zsI w2 r3 v2 0 = some w4 ∧ (zRn X d kc ks MX5_begin 28 [some (.ref v0), none, some (.int (v2 + 1))] [] w4 Q)))))) :
    zRn X d kc ks MX5_begin 28 [some (.ref v0), none, some (.int v2)] [] w Q := by
  refine z_iload_n v2 dX5_begin_28 rfl rfl ?_
  refine z_bipush 8 dX5_begin_29 rfl ?_
  refine z_icmp_ge 54 dX5_begin_31 rfl (fun hc => ?_) (fun hc => ?_)
  · rw [if_pos hc] at h
    exact z_vreturn dX5_begin_54 rfl h
  · rw [if_neg hc] at h
    refine z_aload_n v0 dX5_begin_34 rfl rfl ?_
    obtain ⟨r1, e, h⟩ := h
    refine zq_fR f_X5_9 dX5_begin_35 e ?_
    refine z_iload_n v2 dX5_begin_38 rfl rfl ?_
    refine z_iconst 0 dX5_begin_39 rfl ?_
    obtain ⟨w2, e, h⟩ := h
    refine zq_sI dX5_begin_40 e ?_
    refine z_aload_n v0 dX5_begin_41 rfl rfl ?_
    obtain ⟨r3, e, h⟩ := h
    refine zq_fR f_X5_15 dX5_begin_42 e ?_
    refine z_iload_n v2 dX5_begin_45 rfl rfl ?_
    refine z_iconst 0 dX5_begin_46 rfl ?_
    obtain ⟨w4, e, h⟩ := h
    refine zq_sI dX5_begin_47 e ?_
    refine z_iinc (i := 2) v2 (v2 + 1) dX5_begin_48 rfl rfl (by decide) rfl ?_
    refine z_goto 28 dX5_begin_51 rfl ?_
    exact h
theorem eX5_begin {X : zX} {d kc ks : Nat} {w : zW} {Q : Option Value → zW → Prop} (p0 : Nat) (a1 : Int32) (h : zRn X d kc ks MX5_begin 0 [some (.ref p0), some (.int a1), none] [] w Q) : zEv X d kc ks MX5_begin [.ref p0, .int a1] w Q :=
  zEv.of (by decide) (Nat.le_of_ble_eq_true rfl) (Or.inr (by simp [Value.category])) h
set_option maxRecDepth 100000 in
set_option maxHeartbeats 4000000 in
theorem bX5_has_0 {X : zX} {d kc ks : Nat} {w : zW} {Q : Option Value → zW → Prop} (p0 : Nat) (a1 : Int32)
    (h : if a1 < 0 then (Q (some (.int 0)) w) else (∃ x1, zfI w p0 5 3 = some x1 ∧ (if x1 ≤ a1 then (Q (some (.int 0)) w) else (Q (some (.int 1)) w)))) :
    zRn X d kc ks MX5_has 0 [some (.ref p0), some (.int a1)] [] w Q := by
  refine z_iload_n a1 dX5_has_0 rfl rfl ?_
  refine z_if_lt 16 dX5_has_1 rfl (fun hc => ?_) (fun hc => ?_)
  · rw [if_pos hc] at h
    refine z_iconst 0 dX5_has_16 rfl ?_
    exact z_ireturn .boolean dX5_has_17 rfl rfl h
  · rw [if_neg hc] at h
    refine z_iload_n a1 dX5_has_4 rfl rfl ?_
    refine z_aload_n p0 dX5_has_5 rfl rfl ?_
    obtain ⟨x1, e, h⟩ := h
    refine zq_fI f_X5_25 dX5_has_6 e ?_
    refine z_icmp_ge 16 dX5_has_9 rfl (fun hc => ?_) (fun hc => ?_)
    · rw [if_pos hc] at h
      refine z_iconst 0 dX5_has_16 rfl ?_
      exact z_ireturn .boolean dX5_has_17 rfl rfl h
    · rw [if_neg hc] at h
      refine z_iconst 1 dX5_has_12 rfl ?_
      refine z_goto 17 dX5_has_13 rfl ?_
      exact z_ireturn .boolean dX5_has_17 rfl rfl h
theorem eX5_has {X : zX} {d kc ks : Nat} {w : zW} {Q : Option Value → zW → Prop} (p0 : Nat) (a1 : Int32) (h : zRn X d kc ks MX5_has 0 [some (.ref p0), some (.int a1)] [] w Q) : zEv X d kc ks MX5_has [.ref p0, .int a1] w Q :=
  zEv.of (by decide) (Nat.le_of_ble_eq_true rfl) (Or.inr (by simp [Value.category])) h
set_option maxRecDepth 100000 in
set_option maxHeartbeats 4000000 in
theorem bX5_under_0 {X : zX} {d kc ks : Nat} {w : zW} {Q : Option Value → zW → Prop} (p0 : Nat) (a1 : Int32) (a2 : Int32)
    (h : zIs w p0 5 ∧ zCallI X d MX5_has [.ref p0, .int a1] w (fun x2 w1 => if x2 = 0 then (Q (some (.int 0)) w1) else (zIs w1 p0 5 ∧ zCallI X d MX5_has [.ref p0, .int a2] w1 (fun x4 w3 => if x4 = 0 then (Q (some (.int 0)) w3) else (∃ r5, zfR w3 p0 5 0 = some r5 ∧ (∃ x6, zaI w3 r5 a2 = some x6 ∧ (if ((x6 >>> (a1 &&& 31)) &&& 1) = 1 then (Q (some (.int 1)) w3) else (Q (some (.int 0)) w3)))))))) :
    zRn X d kc ks MX5_under 0 [some (.ref p0), some (.int a1), some (.int a2)] [] w Q := by
  refine z_aload_n p0 dX5_under_0 rfl rfl ?_
  refine z_iload_n a1 dX5_under_1 rfl rfl ?_
  refine zq_VI (N := MX5_has) (As := [.int a1]) m_X5_46 dX5_under_2 rfl rfl (Nat.le_of_ble_eq_true rfl) h (fun x2 w1 h => ?_)
  refine z_if_eq 34 dX5_under_5 rfl (fun hc => ?_) (fun hc => ?_)
  · rw [if_pos hc] at h
    refine z_iconst 0 dX5_under_34 rfl ?_
    exact z_ireturn .boolean dX5_under_35 rfl rfl h
  · rw [if_neg hc] at h
    refine z_aload_n p0 dX5_under_8 rfl rfl ?_
    refine z_iload_n a2 dX5_under_9 rfl rfl ?_
    refine zq_VI (N := MX5_has) (As := [.int a2]) m_X5_46 dX5_under_10 rfl rfl (Nat.le_of_ble_eq_true rfl) h (fun x4 w3 h => ?_)
    refine z_if_eq 34 dX5_under_13 rfl (fun hc => ?_) (fun hc => ?_)
    · rw [if_pos hc] at h
      refine z_iconst 0 dX5_under_34 rfl ?_
      exact z_ireturn .boolean dX5_under_35 rfl rfl h
    · rw [if_neg hc] at h
      refine z_aload_n p0 dX5_under_16 rfl rfl ?_
      obtain ⟨r5, e, h⟩ := h
      refine zq_fR f_X5_9 dX5_under_17 e ?_
      refine z_iload_n a2 dX5_under_20 rfl rfl ?_
      obtain ⟨x6, e, h⟩ := h
      refine zq_aI dX5_under_21 e ?_
      refine z_iload_n a1 dX5_under_22 rfl rfl ?_
      refine z_ishr dX5_under_23 ?_
      refine z_iconst 1 dX5_under_24 rfl ?_
      refine z_iand dX5_under_25 ?_
      refine z_iconst 1 dX5_under_26 rfl ?_
      refine z_icmp_ne 34 dX5_under_27 rfl (fun hc => ?_) (fun hc => ?_)
      · rw [if_neg hc] at h
        refine z_iconst 0 dX5_under_34 rfl ?_
        exact z_ireturn .boolean dX5_under_35 rfl rfl h
      · rw [if_pos hc] at h
        refine z_iconst 1 dX5_under_30 rfl ?_
        refine z_goto 35 dX5_under_31 rfl ?_
        exact z_ireturn .boolean dX5_under_35 rfl rfl h
theorem eX5_under {X : zX} {d kc ks : Nat} {w : zW} {Q : Option Value → zW → Prop} (p0 : Nat) (a1 : Int32) (a2 : Int32) (h : zRn X d kc ks MX5_under 0 [some (.ref p0), some (.int a1), some (.int a2)] [] w Q) : zEv X d kc ks MX5_under [.ref p0, .int a1, .int a2] w Q :=
  zEv.of (by decide) (Nat.le_of_ble_eq_true rfl) (Or.inr (by simp [Value.category])) h
set_option maxRecDepth 100000 in
set_option maxHeartbeats 4000000 in
theorem bX5_link_0 {X : zX} {d kc ks : Nat} {w : zW} {Q : Option Value → zW → Prop} (p0 : Nat) (a1 : Int32) (a2 : Int32)
    (h : zIs w p0 5 ∧ zCallI X d MX5_has [.ref p0, .int a1] w (fun x2 w1 => if x2 = 0 then (Q (some (.int 0)) w1) else (zIs w1 p0 5 ∧ zCallI X d MX5_has [.ref p0, .int a2] w1 (fun x4 w3 => if x4 = 0 then (Q (some (.int 0)) w3) else (zIs w3 p0 5 ∧ zCallI X d MX5_twos [.ref p0] w3 (fun x6 w5 => ∃ r7, zfR w5 p0 5 0 = some r7 ∧ (∃ x8, zaI w5 r7 a1 = some x8 ∧ (∃ r9, zfR w5 p0 5 1 = some r9 ∧ (∃ x10, zaI w5 r9 a2 = some x10 ∧ (zRn X d kc ks MX5_link 50 [some (.ref p0), none, none, some (.int x6), some (.int (x8 ||| ((1 : Int32) <<< (a1 &&& 31)))), some (.int (x10 ||| ((1 : Int32) <<< (a2 &&& 31)))), some (.int 0)] [] w5 Q)))))))))) :
    zRn X d kc ks MX5_link 0 [some (.ref p0), some (.int a1), some (.int a2), none, none, none, none] [] w Q := by
  refine z_aload_n p0 dX5_link_0 rfl rfl ?_
  refine z_iload_n a1 dX5_link_1 rfl rfl ?_
  refine zq_VI (N := MX5_has) (As := [.int a1]) m_X5_46 dX5_link_2 rfl rfl (Nat.le_of_ble_eq_true rfl) h (fun x2 w1 h => ?_)
  refine z_if_eq 16 dX5_link_5 rfl (fun hc => ?_) (fun hc => ?_)
  · rw [if_pos hc] at h
    refine z_iconst 0 dX5_link_16 rfl ?_
    exact z_ireturn .int dX5_link_17 rfl rfl h
  · rw [if_neg hc] at h
    refine z_aload_n p0 dX5_link_8 rfl rfl ?_
    refine z_iload_n a2 dX5_link_9 rfl rfl ?_
    refine zq_VI (N := MX5_has) (As := [.int a2]) m_X5_46 dX5_link_10 rfl rfl (Nat.le_of_ble_eq_true rfl) h (fun x4 w3 h => ?_)
    refine z_if_ne 18 dX5_link_13 rfl (fun hc => ?_) (fun hc => ?_)
    · rw [if_neg hc] at h
      refine z_aload_n p0 dX5_link_18 rfl rfl ?_
      refine zq_VI (N := MX5_twos) (As := []) m_X5_70 dX5_link_19 rfl rfl (Nat.le_of_ble_eq_true rfl) h (fun x6 w5 h => ?_)
      refine z_istore_n (i := 3) dX5_link_22 rfl (by decide) rfl ?_
      refine z_aload_n p0 dX5_link_23 rfl rfl ?_
      obtain ⟨r7, e, h⟩ := h
      refine zq_fR f_X5_9 dX5_link_24 e ?_
      refine z_iload_n a1 dX5_link_27 rfl rfl ?_
      obtain ⟨x8, e, h⟩ := h
      refine zq_aI dX5_link_28 e ?_
      refine z_iconst 1 dX5_link_29 rfl ?_
      refine z_iload_n a1 dX5_link_30 rfl rfl ?_
      refine z_ishl dX5_link_31 ?_
      refine z_ior dX5_link_32 ?_
      refine z_istore (i := 4) dX5_link_33 (by decide) rfl ?_
      refine z_aload_n p0 dX5_link_35 rfl rfl ?_
      obtain ⟨r9, e, h⟩ := h
      refine zq_fR f_X5_15 dX5_link_36 e ?_
      refine z_iload_n a2 dX5_link_39 rfl rfl ?_
      obtain ⟨x10, e, h⟩ := h
      refine zq_aI dX5_link_40 e ?_
      refine z_iconst 1 dX5_link_41 rfl ?_
      refine z_iload_n a2 dX5_link_42 rfl rfl ?_
      refine z_ishl dX5_link_43 ?_
      refine z_ior dX5_link_44 ?_
      refine z_istore (i := 5) dX5_link_45 (by decide) rfl ?_
      refine z_iconst 0 dX5_link_47 rfl ?_
      refine z_istore (i := 6) dX5_link_48 (by decide) rfl ?_
      exact zRn.weak h (zLe_of [true, false, false, true, true, true, true] (And.intro rfl (And.intro rfl (And.intro rfl (And.intro rfl (And.intro rfl (And.intro rfl (And.intro rfl (trivial)))))))))
    · rw [if_pos hc] at h
      refine z_iconst 0 dX5_link_16 rfl ?_
      exact z_ireturn .int dX5_link_17 rfl rfl h
set_option maxRecDepth 100000 in
set_option maxHeartbeats 4000000 in
theorem bX5_link_50 {X : zX} {d kc ks : Nat} {w : zW} {Q : Option Value → zW → Prop} (v0 : Nat) (v3 : Int32) (v4 : Int32) (v5 : Int32) (v6 : Int32)
    (h : ∃ x1, zfI w v0 5 3 = some x1 ∧ (if x1 ≤ v6 then (zIs w v0 5 ∧ zCallI X d MX5_twos [.ref v0] w (fun x3 w2 => Q (some (.int (x3 - v3))) w2)) else (if ((v4 >>> (v6 &&& 31)) &&& 1) = 1 then (∃ r4, zfR w v0 5 1 = some r4 ∧ (∃ x5, zaI w r4 v6 = some x5 ∧ (∃ w6, zsI w r4 v6 (x5 ||| v5) = some w6 ∧ (zRn X d kc ks MX5_link 82 [some (.ref v0), none, none, some (.int v3), some (.int v4), some (.int v5), some (.int v6)] [] w6 Q)))) else (zRn X d kc ks MX5_link 82 [some (.ref v0), none, none, some (.int v3), some (.int v4), some (.int v5), some (.int v6)] [] w Q)))) :
    zRn X d kc ks MX5_link 50 [some (.ref v0), none, none, some (.int v3), some (.int v4), some (.int v5), some (.int v6)] [] w Q := by
  refine z_iload v6 dX5_link_50 rfl ?_
  refine z_aload_n v0 dX5_link_52 rfl rfl ?_
  obtain ⟨x1, e, h⟩ := h
  refine zq_fI f_X5_25 dX5_link_53 e ?_
  refine z_icmp_ge 111 dX5_link_56 rfl (fun hc => ?_) (fun hc => ?_)
  · rw [if_pos hc] at h
    refine z_aload_n v0 dX5_link_111 rfl rfl ?_
    refine zq_VI (N := MX5_twos) (As := []) m_X5_70 dX5_link_112 rfl rfl (Nat.le_of_ble_eq_true rfl) h (fun x3 w2 h => ?_)
    refine z_iload_n v3 dX5_link_115 rfl rfl ?_
    refine z_isub dX5_link_116 ?_
    exact z_ireturn .int dX5_link_117 rfl rfl h
  · rw [if_neg hc] at h
    refine z_iload v4 dX5_link_59 rfl ?_
    refine z_iload v6 dX5_link_61 rfl ?_
    refine z_ishr dX5_link_63 ?_
    refine z_iconst 1 dX5_link_64 rfl ?_
    refine z_iand dX5_link_65 ?_
    refine z_iconst 1 dX5_link_66 rfl ?_
    refine z_icmp_ne 82 dX5_link_67 rfl (fun hc => ?_) (fun hc => ?_)
    · rw [if_neg hc] at h
      exact h
    · rw [if_pos hc] at h
      refine z_aload_n v0 dX5_link_70 rfl rfl ?_
      obtain ⟨r4, e, h⟩ := h
      refine zq_fR f_X5_15 dX5_link_71 e ?_
      refine z_iload v6 dX5_link_74 rfl ?_
      refine z_dup2 dX5_link_76 rfl rfl ?_
      obtain ⟨x5, e, h⟩ := h
      refine zq_aI dX5_link_77 e ?_
      refine z_iload v5 dX5_link_78 rfl ?_
      refine z_ior dX5_link_80 ?_
      obtain ⟨w6, e, h⟩ := h
      refine zq_sI dX5_link_81 e ?_
      exact h
set_option maxRecDepth 100000 in
set_option maxHeartbeats 4000000 in
theorem bX5_link_82 {X : zX} {d kc ks : Nat} {w : zW} {Q : Option Value → zW → Prop} (v0 : Nat) (v3 : Int32) (v4 : Int32) (v5 : Int32) (v6 : Int32)
    (h : if ((v5 >>> (v6 &&& 31)) &&& 1) = 1 then (∃ r1, zfR w v0 5 0 = some r1 ∧ (∃ x2, zaI w r1 v6 = some x2 ∧ (∃ w3, zsI w r1 v6 (x2 ||| v4) = some w3 ∧ (zRn X d kc ks MX5_link 105 [some (.ref v0), none, none, some (.int v3), some (.int v4), some (.int v5), some (.int v6)] [] w3 Q)))) else (zRn X d kc ks MX5_link 105 [some (.ref v0), none, none, some (.int v3), some (.int v4), some (.int v5), some (.int v6)] [] w Q)) :
    zRn X d kc ks MX5_link 82 [some (.ref v0), none, none, some (.int v3), some (.int v4), some (.int v5), some (.int v6)] [] w Q := by
  refine z_iload v5 dX5_link_82 rfl ?_
  refine z_iload v6 dX5_link_84 rfl ?_
  refine z_ishr dX5_link_86 ?_
  refine z_iconst 1 dX5_link_87 rfl ?_
  refine z_iand dX5_link_88 ?_
  refine z_iconst 1 dX5_link_89 rfl ?_
  refine z_icmp_ne 105 dX5_link_90 rfl (fun hc => ?_) (fun hc => ?_)
  · rw [if_neg hc] at h
    exact h
  · rw [if_pos hc] at h
    refine z_aload_n v0 dX5_link_93 rfl rfl ?_
    obtain ⟨r1, e, h⟩ := h
    refine zq_fR f_X5_9 dX5_link_94 e ?_
    refine z_iload v6 dX5_link_97 rfl ?_
    refine z_dup2 dX5_link_99 rfl rfl ?_
    obtain ⟨x2, e, h⟩ := h
    refine zq_aI dX5_link_100 e ?_
    refine z_iload v4 dX5_link_101 rfl ?_
    refine z_ior dX5_link_103 ?_
    obtain ⟨w3, e, h⟩ := h
    refine zq_sI dX5_link_104 e ?_
    exact h
set_option maxRecDepth 100000 in
set_option maxHeartbeats 4000000 in
theorem bX5_link_105 {X : zX} {d kc ks : Nat} {w : zW} {Q : Option Value → zW → Prop} (v0 : Nat) (v3 : Int32) (v4 : Int32) (v5 : Int32) (v6 : Int32)
    (h : zRn X d kc ks MX5_link 50 [some (.ref v0), none, none, some (.int v3), some (.int v4), some (.int v5), some (.int (v6 + 1))] [] w Q) :
    zRn X d kc ks MX5_link 105 [some (.ref v0), none, none, some (.int v3), some (.int v4), some (.int v5), some (.int v6)] [] w Q := by
  refine z_iinc (i := 6) v6 (v6 + 1) dX5_link_105 rfl rfl (by decide) rfl ?_
  refine z_goto 50 dX5_link_108 rfl ?_
  exact h
theorem eX5_link {X : zX} {d kc ks : Nat} {w : zW} {Q : Option Value → zW → Prop} (p0 : Nat) (a1 : Int32) (a2 : Int32) (h : zRn X d kc ks MX5_link 0 [some (.ref p0), some (.int a1), some (.int a2), none, none, none, none] [] w Q) : zEv X d kc ks MX5_link [.ref p0, .int a1, .int a2] w Q :=
  zEv.of (by decide) (Nat.le_of_ble_eq_true rfl) (Or.inr (by simp [Value.category])) h
set_option maxRecDepth 100000 in
set_option maxHeartbeats 4000000 in
theorem bX5_twos_0 {X : zX} {d kc ks : Nat} {w : zW} {Q : Option Value → zW → Prop} (p0 : Nat)
    (h : zRn X d kc ks MX5_twos 4 [some (.ref p0), some (.int 0), some (.int 0)] [] w Q) :
    zRn X d kc ks MX5_twos 0 [some (.ref p0), none, none] [] w Q := by
  refine z_iconst 0 dX5_twos_0 rfl ?_
  refine z_istore_n (i := 1) dX5_twos_1 rfl (by decide) rfl ?_
  refine z_iconst 0 dX5_twos_2 rfl ?_
  refine z_istore_n (i := 2) dX5_twos_3 rfl (by decide) rfl ?_
  exact h
set_option maxRecDepth 100000 in
set_option maxHeartbeats 4000000 in
theorem bX5_twos_4 {X : zX} {d kc ks : Nat} {w : zW} {Q : Option Value → zW → Prop} (v0 : Nat) (v1 : Int32) (v2 : Int32)
    (h : ∃ x1, zfI w v0 5 3 = some x1 ∧ (if x1 ≤ v2 then (Q (some (.int v1)) w) else (∃ r2, zfR w v0 5 0 = some r2 ∧ (∃ x3, zaI w r2 v2 = some x3 ∧ (zCallI X d MJ6_bitCount_0f7a4 [.int x3] w (fun x5 w4 => zRn X d kc ks MX5_twos 4 [some (.ref v0), some (.int (v1 + x5)), some (.int (v2 + 1))] [] w4 Q)))))) :
    zRn X d kc ks MX5_twos 4 [some (.ref v0), some (.int v1), some (.int v2)] [] w Q := by
  refine z_iload_n v2 dX5_twos_4 rfl rfl ?_
  refine z_aload_n v0 dX5_twos_5 rfl rfl ?_
  obtain ⟨x1, e, h⟩ := h
  refine zq_fI f_X5_25 dX5_twos_6 e ?_
  refine z_icmp_ge 30 dX5_twos_9 rfl (fun hc => ?_) (fun hc => ?_)
  · rw [if_pos hc] at h
    refine z_iload_n v1 dX5_twos_30 rfl rfl ?_
    exact z_ireturn .int dX5_twos_31 rfl rfl h
  · rw [if_neg hc] at h
    refine z_iload_n v1 dX5_twos_12 rfl rfl ?_
    refine z_aload_n v0 dX5_twos_13 rfl rfl ?_
    obtain ⟨r2, e, h⟩ := h
    refine zq_fR f_X5_9 dX5_twos_14 e ?_
    refine z_iload_n v2 dX5_twos_17 rfl rfl ?_
    obtain ⟨x3, e, h⟩ := h
    refine zq_aI dX5_twos_18 e ?_
    refine zq_SI (N := MJ6_bitCount_0f7a4) (As := [.int x3]) m_X5_65 dX5_twos_19 rfl rfl (Nat.le_of_ble_eq_true rfl) h (fun x5 w4 h => ?_)
    refine z_iadd dX5_twos_22 ?_
    refine z_istore_n (i := 1) dX5_twos_23 rfl (by decide) rfl ?_
    refine z_iinc (i := 2) v2 (v2 + 1) dX5_twos_24 rfl rfl (by decide) rfl ?_
    refine z_goto 4 dX5_twos_27 rfl ?_
    exact h
theorem eX5_twos {X : zX} {d kc ks : Nat} {w : zW} {Q : Option Value → zW → Prop} (p0 : Nat) (h : zRn X d kc ks MX5_twos 0 [some (.ref p0), none, none] [] w Q) : zEv X d kc ks MX5_twos [.ref p0] w Q :=
  zEv.of (by decide) (Nat.le_of_ble_eq_true rfl) (Or.inr (by simp [Value.category])) h
set_option maxRecDepth 100000 in
set_option maxHeartbeats 4000000 in
theorem bX5_rows_0 {X : zX} {d kc ks : Nat} {w : zW} {Q : Option Value → zW → Prop} (p0 : Nat)
    (h : ∃ r1, zfR w p0 5 2 = some r1 ∧ (Q (some (.ref r1)) w)) :
    zRn X d kc ks MX5_rows 0 [some (.ref p0)] [] w Q := by
  refine z_aload_n p0 dX5_rows_0 rfl rfl ?_
  obtain ⟨r1, e, h⟩ := h
  refine zq_fR f_X5_21 dX5_rows_1 e ?_
  exact z_areturn _ dX5_rows_4 rfl h
theorem eX5_rows {X : zX} {d kc ks : Nat} {w : zW} {Q : Option Value → zW → Prop} (p0 : Nat) (h : zRn X d kc ks MX5_rows 0 [some (.ref p0)] [] w Q) : zEv X d kc ks MX5_rows [.ref p0] w Q :=
  zEv.of (by decide) (Nat.le_of_ble_eq_true rfl) (Or.inr (by simp [Value.category])) h
set_option maxRecDepth 100000 in
set_option maxHeartbeats 4000000 in
theorem bX5_size_0 {X : zX} {d kc ks : Nat} {w : zW} {Q : Option Value → zW → Prop} (p0 : Nat)
    (h : ∃ x1, zfI w p0 5 3 = some x1 ∧ (Q (some (.int x1)) w)) :
    zRn X d kc ks MX5_size 0 [some (.ref p0)] [] w Q := by
  refine z_aload_n p0 dX5_size_0 rfl rfl ?_
  obtain ⟨x1, e, h⟩ := h
  refine zq_fI f_X5_25 dX5_size_1 e ?_
  exact z_ireturn .int dX5_size_4 rfl rfl h
theorem eX5_size {X : zX} {d kc ks : Nat} {w : zW} {Q : Option Value → zW → Prop} (p0 : Nat) (h : zRn X d kc ks MX5_size 0 [some (.ref p0)] [] w Q) : zEv X d kc ks MX5_size [.ref p0] w Q :=
  zEv.of (by decide) (Nat.le_of_ble_eq_true rfl) (Or.inr (by simp [Value.category])) h
set_option maxRecDepth 100000 in
set_option maxHeartbeats 4000000 in
theorem bX5_sameAs_0 {X : zX} {d kc ks : Nat} {w : zW} {Q : Option Value → zW → Prop} (p0 : Nat) (p1 : Nat)
    (h : ∃ x1, zfI w p0 5 3 = some x1 ∧ (∃ x2, zfI w p1 5 3 = some x2 ∧ (if x1 = x2 then (zRn X d kc ks MX5_sameAs 15 [some (.ref p0), some (.ref p1), some (.int 0)] [] w Q) else (Q (some (.int 0)) w)))) :
    zRn X d kc ks MX5_sameAs 0 [some (.ref p0), some (.ref p1), none] [] w Q := by
  refine z_aload_n p0 dX5_sameAs_0 rfl rfl ?_
  obtain ⟨x1, e, h⟩ := h
  refine zq_fI f_X5_25 dX5_sameAs_1 e ?_
  refine z_aload_n p1 dX5_sameAs_4 rfl rfl ?_
  obtain ⟨x2, e, h⟩ := h
  refine zq_fI f_X5_25 dX5_sameAs_5 e ?_
  refine z_icmp_eq 13 dX5_sameAs_8 rfl (fun hc => ?_) (fun hc => ?_)
  · rw [if_pos hc] at h
    refine z_iconst 0 dX5_sameAs_13 rfl ?_
    refine z_istore_n (i := 2) dX5_sameAs_14 rfl (by decide) rfl ?_
    exact h
  · rw [if_neg hc] at h
    refine z_iconst 0 dX5_sameAs_11 rfl ?_
    exact z_ireturn .boolean dX5_sameAs_12 rfl rfl h
set_option maxRecDepth 100000 in
set_option maxHeartbeats 4000000 in
theorem bX5_sameAs_15 {X : zX} {d kc ks : Nat} {w : zW} {Q : Option Value → zW → Prop} (v0 : Nat) (v1 : Nat) (v2 : Int32)
    (h : ∃ x1, zfI w v0 5 3 = some x1 ∧ (if x1 ≤ v2 then (∃ r2, zfR w v0 5 2 = some r2 ∧ (∃ r3, zfR w v1 5 2 = some r3 ∧ (∃ x4, zfI w v0 5 3 = some x4 ∧ (zIs w r2 8 ∧ zCallI X d MX8_sameAs [.ref r2, .ref r3, .int x4] w (fun x6 w5 => zBool x6 ∧ Q (some (.int x6)) w5))))) else (∃ r7, zfR w v0 5 0 = some r7 ∧ (∃ x8, zaI w r7 v2 = some x8 ∧ (∃ r9, zfR w v1 5 0 = some r9 ∧ (∃ x10, zaI w r9 v2 = some x10 ∧ (if x8 = x10 then (zRn X d kc ks MX5_sameAs 15 [some (.ref v0), some (.ref v1), some (.int (v2 + 1))] [] w Q) else (Q (some (.int 0)) w)))))))) :
    zRn X d kc ks MX5_sameAs 15 [some (.ref v0), some (.ref v1), some (.int v2)] [] w Q := by
  refine z_iload_n v2 dX5_sameAs_15 rfl rfl ?_
  refine z_aload_n v0 dX5_sameAs_16 rfl rfl ?_
  obtain ⟨x1, e, h⟩ := h
  refine zq_fI f_X5_25 dX5_sameAs_17 e ?_
  refine z_icmp_ge 46 dX5_sameAs_20 rfl (fun hc => ?_) (fun hc => ?_)
  · rw [if_pos hc] at h
    refine z_aload_n v0 dX5_sameAs_46 rfl rfl ?_
    obtain ⟨r2, e, h⟩ := h
    refine zq_fR f_X5_21 dX5_sameAs_47 e ?_
    refine z_aload_n v1 dX5_sameAs_50 rfl rfl ?_
    obtain ⟨r3, e, h⟩ := h
    refine zq_fR f_X5_21 dX5_sameAs_51 e ?_
    refine z_aload_n v0 dX5_sameAs_54 rfl rfl ?_
    obtain ⟨x4, e, h⟩ := h
    refine zq_fI f_X5_25 dX5_sameAs_55 e ?_
    refine zq_VI (N := MX8_sameAs) (As := [.ref r3, .int x4]) m_X5_42 dX5_sameAs_58 rfl rfl (Nat.le_of_ble_eq_true rfl) h (fun x6 w5 h => ?_)
    exact z_ireturn .boolean dX5_sameAs_61 rfl (zBool_n h.1) h.2
  · rw [if_neg hc] at h
    refine z_aload_n v0 dX5_sameAs_23 rfl rfl ?_
    obtain ⟨r7, e, h⟩ := h
    refine zq_fR f_X5_9 dX5_sameAs_24 e ?_
    refine z_iload_n v2 dX5_sameAs_27 rfl rfl ?_
    obtain ⟨x8, e, h⟩ := h
    refine zq_aI dX5_sameAs_28 e ?_
    refine z_aload_n v1 dX5_sameAs_29 rfl rfl ?_
    obtain ⟨r9, e, h⟩ := h
    refine zq_fR f_X5_9 dX5_sameAs_30 e ?_
    refine z_iload_n v2 dX5_sameAs_33 rfl rfl ?_
    obtain ⟨x10, e, h⟩ := h
    refine zq_aI dX5_sameAs_34 e ?_
    refine z_icmp_eq 40 dX5_sameAs_35 rfl (fun hc => ?_) (fun hc => ?_)
    · rw [if_pos hc] at h
      refine z_iinc (i := 2) v2 (v2 + 1) dX5_sameAs_40 rfl rfl (by decide) rfl ?_
      refine z_goto 15 dX5_sameAs_43 rfl ?_
      exact h
    · rw [if_neg hc] at h
      refine z_iconst 0 dX5_sameAs_38 rfl ?_
      exact z_ireturn .boolean dX5_sameAs_39 rfl rfl h
theorem eX5_sameAs {X : zX} {d kc ks : Nat} {w : zW} {Q : Option Value → zW → Prop} (p0 : Nat) (p1 : Nat) (h : zRn X d kc ks MX5_sameAs 0 [some (.ref p0), some (.ref p1), none] [] w Q) : zEv X d kc ks MX5_sameAs [.ref p0, .ref p1] w Q :=
  zEv.of (by decide) (Nat.le_of_ble_eq_true rfl) (Or.inr (by simp [Value.category])) h
set_option maxRecDepth 100000 in
set_option maxHeartbeats 4000000 in
theorem bX5_copyFrom_0 {X : zX} {d kc ks : Nat} {w : zW} {Q : Option Value → zW → Prop} (p0 : Nat) (p1 : Nat)
    (h : ∃ x1, zfI w p1 5 3 = some x1 ∧ (∃ w2, zsF w p0 5 3 (.int x1) = some w2 ∧ (∃ r3, zfR w2 p1 5 0 = some r3 ∧ (∃ r4, zfR w2 p0 5 0 = some r4 ∧ (0 < d ∧ ∃ w5, zcp w2 r3 0 r4 0 8 = some w5 ∧ (∃ r6, zfR w5 p1 5 1 = some r6 ∧ (∃ r7, zfR w5 p0 5 1 = some r7 ∧ (0 < d ∧ ∃ w8, zcp w5 r6 0 r7 0 8 = some w8 ∧ (∃ r9, zfR w8 p0 5 2 = some r9 ∧ (∃ r10, zfR w8 p1 5 2 = some r10 ∧ (zIs w8 r9 8 ∧ zCallV X d MX8_copyFrom [.ref r9, .ref r10] w8 (fun w11 => Q none w11)))))))))))) :
    zRn X d kc ks MX5_copyFrom 0 [some (.ref p0), some (.ref p1)] [] w Q := by
  refine z_aload_n p0 dX5_copyFrom_0 rfl rfl ?_
  refine z_aload_n p1 dX5_copyFrom_1 rfl rfl ?_
  obtain ⟨x1, e, h⟩ := h
  refine zq_fI f_X5_25 dX5_copyFrom_2 e ?_
  obtain ⟨w2, e, h⟩ := h
  refine zq_sF f_X5_25 dX5_copyFrom_5 (fun _ => rfl) (fun _ => rfl) e ?_
  refine z_aload_n p1 dX5_copyFrom_8 rfl rfl ?_
  obtain ⟨r3, e, h⟩ := h
  refine zq_fR f_X5_9 dX5_copyFrom_9 e ?_
  refine z_iconst 0 dX5_copyFrom_12 rfl ?_
  refine z_aload_n p0 dX5_copyFrom_13 rfl rfl ?_
  obtain ⟨r4, e, h⟩ := h
  refine zq_fR f_X5_9 dX5_copyFrom_14 e ?_
  refine z_iconst 0 dX5_copyFrom_17 rfl ?_
  refine z_bipush 8 dX5_copyFrom_18 rfl ?_
  obtain ⟨hd0, w5, e, h⟩ := h
  refine zq_cp g_570 g_572 g_571 g_119 dX5_copyFrom_20 (Nat.le_of_ble_eq_true rfl) hd0 e ?_
  refine z_aload_n p1 dX5_copyFrom_23 rfl rfl ?_
  obtain ⟨r6, e, h⟩ := h
  refine zq_fR f_X5_15 dX5_copyFrom_24 e ?_
  refine z_iconst 0 dX5_copyFrom_27 rfl ?_
  refine z_aload_n p0 dX5_copyFrom_28 rfl rfl ?_
  obtain ⟨r7, e, h⟩ := h
  refine zq_fR f_X5_15 dX5_copyFrom_29 e ?_
  refine z_iconst 0 dX5_copyFrom_32 rfl ?_
  refine z_bipush 8 dX5_copyFrom_33 rfl ?_
  obtain ⟨hd0, w8, e, h⟩ := h
  refine zq_cp g_570 g_572 g_571 g_119 dX5_copyFrom_35 (Nat.le_of_ble_eq_true rfl) hd0 e ?_
  refine z_aload_n p0 dX5_copyFrom_38 rfl rfl ?_
  obtain ⟨r9, e, h⟩ := h
  refine zq_fR f_X5_21 dX5_copyFrom_39 e ?_
  refine z_aload_n p1 dX5_copyFrom_42 rfl rfl ?_
  obtain ⟨r10, e, h⟩ := h
  refine zq_fR f_X5_21 dX5_copyFrom_43 e ?_
  refine zq_VV (N := MX8_copyFrom) (As := [.ref r10]) m_X5_38 dX5_copyFrom_46 rfl rfl (Nat.le_of_ble_eq_true rfl) h (fun w11 h => ?_)
  exact z_vreturn dX5_copyFrom_49 rfl h
theorem eX5_copyFrom {X : zX} {d kc ks : Nat} {w : zW} {Q : Option Value → zW → Prop} (p0 : Nat) (p1 : Nat) (h : zRn X d kc ks MX5_copyFrom 0 [some (.ref p0), some (.ref p1)] [] w Q) : zEv X d kc ks MX5_copyFrom [.ref p0, .ref p1] w Q :=
  zEv.of (by decide) (Nat.le_of_ble_eq_true rfl) (Or.inr (by simp [Value.category])) h
set_option maxRecDepth 100000 in
set_option maxHeartbeats 4000000 in
theorem bX5_covers_0 {X : zX} {d kc ks : Nat} {w : zW} {Q : Option Value → zW → Prop} (p0 : Nat)
    (h : zRn X d kc ks MX5_covers 4 [some (.ref p0), some (.int 0), some (.int 0)] [] w Q) :
    zRn X d kc ks MX5_covers 0 [some (.ref p0), none, none] [] w Q := by
  refine z_iconst 0 dX5_covers_0 rfl ?_
  refine z_istore_n (i := 1) dX5_covers_1 rfl (by decide) rfl ?_
  refine z_iconst 0 dX5_covers_2 rfl ?_
  refine z_istore_n (i := 2) dX5_covers_3 rfl (by decide) rfl ?_
  exact h
set_option maxRecDepth 100000 in
set_option maxHeartbeats 4000000 in
theorem bX5_covers_4 {X : zX} {d kc ks : Nat} {w : zW} {Q : Option Value → zW → Prop} (v0 : Nat) (v1 : Int32) (v2 : Int32)
    (h : ∃ x1, zfI w v0 5 3 = some x1 ∧ (if x1 ≤ v2 then (Q (some (.int v1)) w) else (zIs w v0 5 ∧ zCallI X d MX5_coveredBy [.ref v0, .int v2] w (fun x3 w2 => zCallI X d MJ6_bitCount_0f7a4 [.int x3] w2 (fun x5 w4 => zRn X d kc ks MX5_covers 4 [some (.ref v0), some (.int (v1 + x5)), some (.int (v2 + 1))] [] w4 Q))))) :
    zRn X d kc ks MX5_covers 4 [some (.ref v0), some (.int v1), some (.int v2)] [] w Q := by
  refine z_iload_n v2 dX5_covers_4 rfl rfl ?_
  refine z_aload_n v0 dX5_covers_5 rfl rfl ?_
  obtain ⟨x1, e, h⟩ := h
  refine zq_fI f_X5_25 dX5_covers_6 e ?_
  refine z_icmp_ge 29 dX5_covers_9 rfl (fun hc => ?_) (fun hc => ?_)
  · rw [if_pos hc] at h
    refine z_iload_n v1 dX5_covers_29 rfl rfl ?_
    exact z_ireturn .int dX5_covers_30 rfl rfl h
  · rw [if_neg hc] at h
    refine z_iload_n v1 dX5_covers_12 rfl rfl ?_
    refine z_aload_n v0 dX5_covers_13 rfl rfl ?_
    refine z_iload_n v2 dX5_covers_14 rfl rfl ?_
    refine zq_VI (N := MX5_coveredBy) (As := [.int v2]) m_X5_73 dX5_covers_15 rfl rfl (Nat.le_of_ble_eq_true rfl) h (fun x3 w2 h => ?_)
    refine zq_SI (N := MJ6_bitCount_0f7a4) (As := [.int x3]) m_X5_65 dX5_covers_18 rfl rfl (Nat.le_of_ble_eq_true rfl) h (fun x5 w4 h => ?_)
    refine z_iadd dX5_covers_21 ?_
    refine z_istore_n (i := 1) dX5_covers_22 rfl (by decide) rfl ?_
    refine z_iinc (i := 2) v2 (v2 + 1) dX5_covers_23 rfl rfl (by decide) rfl ?_
    refine z_goto 4 dX5_covers_26 rfl ?_
    exact h
theorem eX5_covers {X : zX} {d kc ks : Nat} {w : zW} {Q : Option Value → zW → Prop} (p0 : Nat) (h : zRn X d kc ks MX5_covers 0 [some (.ref p0), none, none] [] w Q) : zEv X d kc ks MX5_covers [.ref p0] w Q :=
  zEv.of (by decide) (Nat.le_of_ble_eq_true rfl) (Or.inr (by simp [Value.category])) h
set_option maxRecDepth 100000 in
set_option maxHeartbeats 4000000 in
theorem bX5_coveredBy_0 {X : zX} {d kc ks : Nat} {w : zW} {Q : Option Value → zW → Prop} (p0 : Nat) (a1 : Int32)
    (h : zIs w p0 5 ∧ zCallI X d MX5_belowOf [.ref p0, .int a1] w (fun x2 w1 => zRn X d kc ks MX5_coveredBy 8 [some (.ref p0), some (.int a1), some (.int x2), some (.int 0)] [] w1 Q)) :
    zRn X d kc ks MX5_coveredBy 0 [some (.ref p0), some (.int a1), none, none] [] w Q := by
  refine z_aload_n p0 dX5_coveredBy_0 rfl rfl ?_
  refine z_iload_n a1 dX5_coveredBy_1 rfl rfl ?_
  refine zq_VI (N := MX5_belowOf) (As := [.int a1]) m_X5_54 dX5_coveredBy_2 rfl rfl (Nat.le_of_ble_eq_true rfl) h (fun x2 w1 h => ?_)
  refine z_istore_n (i := 2) dX5_coveredBy_5 rfl (by decide) rfl ?_
  refine z_iconst 0 dX5_coveredBy_6 rfl ?_
  refine z_istore_n (i := 3) dX5_coveredBy_7 rfl (by decide) rfl ?_
  exact h
set_option maxRecDepth 100000 in
set_option maxHeartbeats 4000000 in
theorem bX5_coveredBy_8 {X : zX} {d kc ks : Nat} {w : zW} {Q : Option Value → zW → Prop} (v0 : Nat) (v1 : Int32) (v2 : Int32) (v3 : Int32)
    (h : ∃ x1, zfI w v0 5 3 = some x1 ∧ (if x1 ≤ v3 then (Q (some (.int v2)) w) else (zIs w v0 5 ∧ zCallI X d MX5_under [.ref v0, .int v3, .int v1] w (fun x3 w2 => if x3 = 0 then (zRn X d kc ks MX5_coveredBy 36 [some (.ref v0), some (.int v1), some (.int v2), some (.int v3)] [] w2 Q) else (∃ r4, zfR w2 v0 5 0 = some r4 ∧ (∃ x5, zaI w2 r4 v3 = some x5 ∧ (zRn X d kc ks MX5_coveredBy 36 [some (.ref v0), some (.int v1), some (.int (v2 &&& (x5 ^^^ (-1)))), some (.int v3)] [] w2 Q))))))) :
    zRn X d kc ks MX5_coveredBy 8 [some (.ref v0), some (.int v1), some (.int v2), some (.int v3)] [] w Q := by
  refine z_iload_n v3 dX5_coveredBy_8 rfl rfl ?_
  refine z_aload_n v0 dX5_coveredBy_9 rfl rfl ?_
  obtain ⟨x1, e, h⟩ := h
  refine zq_fI f_X5_25 dX5_coveredBy_10 e ?_
  refine z_icmp_ge 42 dX5_coveredBy_13 rfl (fun hc => ?_) (fun hc => ?_)
  · rw [if_pos hc] at h
    refine z_iload_n v2 dX5_coveredBy_42 rfl rfl ?_
    exact z_ireturn .int dX5_coveredBy_43 rfl rfl h
  · rw [if_neg hc] at h
    refine z_aload_n v0 dX5_coveredBy_16 rfl rfl ?_
    refine z_iload_n v3 dX5_coveredBy_17 rfl rfl ?_
    refine z_iload_n v1 dX5_coveredBy_18 rfl rfl ?_
    refine zq_VI (N := MX5_under) (As := [.int v3, .int v1]) m_X5_58 dX5_coveredBy_19 rfl rfl (Nat.le_of_ble_eq_true rfl) h (fun x3 w2 h => ?_)
    refine z_if_eq 36 dX5_coveredBy_22 rfl (fun hc => ?_) (fun hc => ?_)
    · rw [if_pos hc] at h
      exact h
    · rw [if_neg hc] at h
      refine z_iload_n v2 dX5_coveredBy_25 rfl rfl ?_
      refine z_aload_n v0 dX5_coveredBy_26 rfl rfl ?_
      obtain ⟨r4, e, h⟩ := h
      refine zq_fR f_X5_9 dX5_coveredBy_27 e ?_
      refine z_iload_n v3 dX5_coveredBy_30 rfl rfl ?_
      obtain ⟨x5, e, h⟩ := h
      refine zq_aI dX5_coveredBy_31 e ?_
      refine z_iconst (-1) dX5_coveredBy_32 rfl ?_
      refine z_ixor dX5_coveredBy_33 ?_
      refine z_iand dX5_coveredBy_34 ?_
      refine z_istore_n (i := 2) dX5_coveredBy_35 rfl (by decide) rfl ?_
      exact h
set_option maxRecDepth 100000 in
set_option maxHeartbeats 4000000 in
theorem bX5_coveredBy_36 {X : zX} {d kc ks : Nat} {w : zW} {Q : Option Value → zW → Prop} (v0 : Nat) (v1 : Int32) (v2 : Int32) (v3 : Int32)
    (h : zRn X d kc ks MX5_coveredBy 8 [some (.ref v0), some (.int v1), some (.int v2), some (.int (v3 + 1))] [] w Q) :
    zRn X d kc ks MX5_coveredBy 36 [some (.ref v0), some (.int v1), some (.int v2), some (.int v3)] [] w Q := by
  refine z_iinc (i := 3) v3 (v3 + 1) dX5_coveredBy_36 rfl rfl (by decide) rfl ?_
  refine z_goto 8 dX5_coveredBy_39 rfl ?_
  exact h
theorem eX5_coveredBy {X : zX} {d kc ks : Nat} {w : zW} {Q : Option Value → zW → Prop} (p0 : Nat) (a1 : Int32) (h : zRn X d kc ks MX5_coveredBy 0 [some (.ref p0), some (.int a1), none, none] [] w Q) : zEv X d kc ks MX5_coveredBy [.ref p0, .int a1] w Q :=
  zEv.of (by decide) (Nat.le_of_ble_eq_true rfl) (Or.inr (by simp [Value.category])) h
set_option maxRecDepth 100000 in
set_option maxHeartbeats 4000000 in
theorem bX5_belowOf_0 {X : zX} {d kc ks : Nat} {w : zW} {Q : Option Value → zW → Prop} (p0 : Nat) (a1 : Int32)
    (h : zIs w p0 5 ∧ zCallI X d MX5_has [.ref p0, .int a1] w (fun x2 w1 => if x2 = 0 then (Q (some (.int 0)) w1) else (∃ r3, zfR w1 p0 5 0 = some r3 ∧ (∃ x4, zaI w1 r3 a1 = some x4 ∧ (Q (some (.int x4)) w1))))) :
    zRn X d kc ks MX5_belowOf 0 [some (.ref p0), some (.int a1)] [] w Q := by
  refine z_aload_n p0 dX5_belowOf_0 rfl rfl ?_
  refine z_iload_n a1 dX5_belowOf_1 rfl rfl ?_
  refine zq_VI (N := MX5_has) (As := [.int a1]) m_X5_46 dX5_belowOf_2 rfl rfl (Nat.le_of_ble_eq_true rfl) h (fun x2 w1 h => ?_)
  refine z_if_eq 17 dX5_belowOf_5 rfl (fun hc => ?_) (fun hc => ?_)
  · rw [if_pos hc] at h
    refine z_iconst 0 dX5_belowOf_17 rfl ?_
    exact z_ireturn .int dX5_belowOf_18 rfl rfl h
  · rw [if_neg hc] at h
    refine z_aload_n p0 dX5_belowOf_8 rfl rfl ?_
    obtain ⟨r3, e, h⟩ := h
    refine zq_fR f_X5_9 dX5_belowOf_9 e ?_
    refine z_iload_n a1 dX5_belowOf_12 rfl rfl ?_
    obtain ⟨x4, e, h⟩ := h
    refine zq_aI dX5_belowOf_13 e ?_
    refine z_goto 18 dX5_belowOf_14 rfl ?_
    exact z_ireturn .int dX5_belowOf_18 rfl rfl h
theorem eX5_belowOf {X : zX} {d kc ks : Nat} {w : zW} {Q : Option Value → zW → Prop} (p0 : Nat) (a1 : Int32) (h : zRn X d kc ks MX5_belowOf 0 [some (.ref p0), some (.int a1)] [] w Q) : zEv X d kc ks MX5_belowOf [.ref p0, .int a1] w Q :=
  zEv.of (by decide) (Nat.le_of_ble_eq_true rfl) (Or.inr (by simp [Value.category])) h
set_option maxRecDepth 100000 in
set_option maxHeartbeats 4000000 in
theorem bX5_aboveOf_0 {X : zX} {d kc ks : Nat} {w : zW} {Q : Option Value → zW → Prop} (p0 : Nat) (a1 : Int32)
    (h : zIs w p0 5 ∧ zCallI X d MX5_has [.ref p0, .int a1] w (fun x2 w1 => if x2 = 0 then (Q (some (.int 0)) w1) else (∃ r3, zfR w1 p0 5 1 = some r3 ∧ (∃ x4, zaI w1 r3 a1 = some x4 ∧ (Q (some (.int x4)) w1))))) :
    zRn X d kc ks MX5_aboveOf 0 [some (.ref p0), some (.int a1)] [] w Q := by
  refine z_aload_n p0 dX5_aboveOf_0 rfl rfl ?_
  refine z_iload_n a1 dX5_aboveOf_1 rfl rfl ?_
  refine zq_VI (N := MX5_has) (As := [.int a1]) m_X5_46 dX5_aboveOf_2 rfl rfl (Nat.le_of_ble_eq_true rfl) h (fun x2 w1 h => ?_)
  refine z_if_eq 17 dX5_aboveOf_5 rfl (fun hc => ?_) (fun hc => ?_)
  · rw [if_pos hc] at h
    refine z_iconst 0 dX5_aboveOf_17 rfl ?_
    exact z_ireturn .int dX5_aboveOf_18 rfl rfl h
  · rw [if_neg hc] at h
    refine z_aload_n p0 dX5_aboveOf_8 rfl rfl ?_
    obtain ⟨r3, e, h⟩ := h
    refine zq_fR f_X5_15 dX5_aboveOf_9 e ?_
    refine z_iload_n a1 dX5_aboveOf_12 rfl rfl ?_
    obtain ⟨x4, e, h⟩ := h
    refine zq_aI dX5_aboveOf_13 e ?_
    refine z_goto 18 dX5_aboveOf_14 rfl ?_
    exact z_ireturn .int dX5_aboveOf_18 rfl rfl h
theorem eX5_aboveOf {X : zX} {d kc ks : Nat} {w : zW} {Q : Option Value → zW → Prop} (p0 : Nat) (a1 : Int32) (h : zRn X d kc ks MX5_aboveOf 0 [some (.ref p0), some (.int a1)] [] w Q) : zEv X d kc ks MX5_aboveOf [.ref p0, .int a1] w Q :=
  zEv.of (by decide) (Nat.le_of_ble_eq_true rfl) (Or.inr (by simp [Value.category])) h
set_option maxRecDepth 100000 in
set_option maxHeartbeats 4000000 in
theorem bX5_all_0 {X : zX} {d kc ks : Nat} {w : zW} {Q : Option Value → zW → Prop} (p0 : Nat)
    (h : ∃ x1, zfI w p0 5 3 = some x1 ∧ (Q (some (.int (((1 : Int32) <<< (x1 &&& 31)) - 1))) w)) :
    zRn X d kc ks MX5_all 0 [some (.ref p0)] [] w Q := by
  refine z_iconst 1 dX5_all_0 rfl ?_
  refine z_aload_n p0 dX5_all_1 rfl rfl ?_
  obtain ⟨x1, e, h⟩ := h
  refine zq_fI f_X5_25 dX5_all_2 e ?_
  refine z_ishl dX5_all_5 ?_
  refine z_iconst 1 dX5_all_6 rfl ?_
  refine z_isub dX5_all_7 ?_
  exact z_ireturn .int dX5_all_8 rfl rfl h
theorem eX5_all {X : zX} {d kc ks : Nat} {w : zW} {Q : Option Value → zW → Prop} (p0 : Nat) (h : zRn X d kc ks MX5_all 0 [some (.ref p0)] [] w Q) : zEv X d kc ks MX5_all [.ref p0] w Q :=
  zEv.of (by decide) (Nat.le_of_ble_eq_true rfl) (Or.inr (by simp [Value.category])) h
set_option maxRecDepth 100000 in
set_option maxHeartbeats 4000000 in
theorem bX5_freeTwos_0 {X : zX} {d kc ks : Nat} {w : zW} {Q : Option Value → zW → Prop} (p0 : Nat)
    (h : ∃ x1, zfI w p0 5 3 = some x1 ∧ (∃ x2, zfI w p0 5 3 = some x2 ∧ (zIs w p0 5 ∧ zCallI X d MX5_twos [.ref p0] w (fun x4 w3 => Q (some (.int (((x1 * (x2 - 1)) / 2) - x4))) w3)))) :
    zRn X d kc ks MX5_freeTwos 0 [some (.ref p0)] [] w Q := by
  refine z_aload_n p0 dX5_freeTwos_0 rfl rfl ?_
  obtain ⟨x1, e, h⟩ := h
  refine zq_fI f_X5_25 dX5_freeTwos_1 e ?_
  refine z_aload_n p0 dX5_freeTwos_4 rfl rfl ?_
  obtain ⟨x2, e, h⟩ := h
  refine zq_fI f_X5_25 dX5_freeTwos_5 e ?_
  refine z_iconst 1 dX5_freeTwos_8 rfl ?_
  refine z_isub dX5_freeTwos_9 ?_
  refine z_imul dX5_freeTwos_10 ?_
  refine z_iconst 2 dX5_freeTwos_11 rfl ?_
  refine z_idiv dX5_freeTwos_12 (by decide) ?_
  refine z_aload_n p0 dX5_freeTwos_13 rfl rfl ?_
  refine zq_VI (N := MX5_twos) (As := []) m_X5_70 dX5_freeTwos_14 rfl rfl (Nat.le_of_ble_eq_true rfl) h (fun x4 w3 h => ?_)
  refine z_isub dX5_freeTwos_17 ?_
  exact z_ireturn .int dX5_freeTwos_18 rfl rfl h
theorem eX5_freeTwos {X : zX} {d kc ks : Nat} {w : zW} {Q : Option Value → zW → Prop} (p0 : Nat) (h : zRn X d kc ks MX5_freeTwos 0 [some (.ref p0)] [] w Q) : zEv X d kc ks MX5_freeTwos [.ref p0] w Q :=
  zEv.of (by decide) (Nat.le_of_ble_eq_true rfl) (Or.inr (by simp [Value.category])) h
set_option maxRecDepth 100000 in
set_option maxHeartbeats 4000000 in
theorem bX5_isIdeal_0 {X : zX} {d kc ks : Nat} {w : zW} {Q : Option Value → zW → Prop} (p0 : Nat) (a1 : Int32)
    (h : zRn X d kc ks MX5_isIdeal 2 [some (.ref p0), some (.int a1), some (.int 0)] [] w Q) :
    zRn X d kc ks MX5_isIdeal 0 [some (.ref p0), some (.int a1), none] [] w Q := by
  refine z_iconst 0 dX5_isIdeal_0 rfl ?_
  refine z_istore_n (i := 2) dX5_isIdeal_1 rfl (by decide) rfl ?_
  exact h
set_option maxRecDepth 100000 in
set_option maxHeartbeats 4000000 in
theorem bX5_isIdeal_2 {X : zX} {d kc ks : Nat} {w : zW} {Q : Option Value → zW → Prop} (v0 : Nat) (v1 : Int32) (v2 : Int32)
    (h : ∃ x1, zfI w v0 5 3 = some x1 ∧ (if x1 ≤ v2 then (Q (some (.int 1)) w) else (if ((v1 >>> (v2 &&& 31)) &&& 1) = 1 then (∃ r2, zfR w v0 5 0 = some r2 ∧ (∃ x3, zaI w r2 v2 = some x3 ∧ (if (x3 &&& (v1 ^^^ (-1))) = 0 then (zRn X d kc ks MX5_isIdeal 34 [some (.ref v0), some (.int v1), some (.int v2)] [] w Q) else (Q (some (.int 0)) w)))) else (zRn X d kc ks MX5_isIdeal 34 [some (.ref v0), some (.int v1), some (.int v2)] [] w Q)))) :
    zRn X d kc ks MX5_isIdeal 2 [some (.ref v0), some (.int v1), some (.int v2)] [] w Q := by
  refine z_iload_n v2 dX5_isIdeal_2 rfl rfl ?_
  refine z_aload_n v0 dX5_isIdeal_3 rfl rfl ?_
  obtain ⟨x1, e, h⟩ := h
  refine zq_fI f_X5_25 dX5_isIdeal_4 e ?_
  refine z_icmp_ge 40 dX5_isIdeal_7 rfl (fun hc => ?_) (fun hc => ?_)
  · rw [if_pos hc] at h
    refine z_iconst 1 dX5_isIdeal_40 rfl ?_
    exact z_ireturn .boolean dX5_isIdeal_41 rfl rfl h
  · rw [if_neg hc] at h
    refine z_iload_n v1 dX5_isIdeal_10 rfl rfl ?_
    refine z_iload_n v2 dX5_isIdeal_11 rfl rfl ?_
    refine z_ishr dX5_isIdeal_12 ?_
    refine z_iconst 1 dX5_isIdeal_13 rfl ?_
    refine z_iand dX5_isIdeal_14 ?_
    refine z_iconst 1 dX5_isIdeal_15 rfl ?_
    refine z_icmp_ne 34 dX5_isIdeal_16 rfl (fun hc => ?_) (fun hc => ?_)
    · rw [if_neg hc] at h
      exact h
    · rw [if_pos hc] at h
      refine z_aload_n v0 dX5_isIdeal_19 rfl rfl ?_
      obtain ⟨r2, e, h⟩ := h
      refine zq_fR f_X5_9 dX5_isIdeal_20 e ?_
      refine z_iload_n v2 dX5_isIdeal_23 rfl rfl ?_
      obtain ⟨x3, e, h⟩ := h
      refine zq_aI dX5_isIdeal_24 e ?_
      refine z_iload_n v1 dX5_isIdeal_25 rfl rfl ?_
      refine z_iconst (-1) dX5_isIdeal_26 rfl ?_
      refine z_ixor dX5_isIdeal_27 ?_
      refine z_iand dX5_isIdeal_28 ?_
      refine z_if_eq 34 dX5_isIdeal_29 rfl (fun hc => ?_) (fun hc => ?_)
      · rw [if_pos hc] at h
        exact h
      · rw [if_neg hc] at h
        refine z_iconst 0 dX5_isIdeal_32 rfl ?_
        exact z_ireturn .boolean dX5_isIdeal_33 rfl rfl h
set_option maxRecDepth 100000 in
set_option maxHeartbeats 4000000 in
theorem bX5_isIdeal_34 {X : zX} {d kc ks : Nat} {w : zW} {Q : Option Value → zW → Prop} (v0 : Nat) (v1 : Int32) (v2 : Int32)
    (h : zRn X d kc ks MX5_isIdeal 2 [some (.ref v0), some (.int v1), some (.int (v2 + 1))] [] w Q) :
    zRn X d kc ks MX5_isIdeal 34 [some (.ref v0), some (.int v1), some (.int v2)] [] w Q := by
  refine z_iinc (i := 2) v2 (v2 + 1) dX5_isIdeal_34 rfl rfl (by decide) rfl ?_
  refine z_goto 2 dX5_isIdeal_37 rfl ?_
  exact h
theorem eX5_isIdeal {X : zX} {d kc ks : Nat} {w : zW} {Q : Option Value → zW → Prop} (p0 : Nat) (a1 : Int32) (h : zRn X d kc ks MX5_isIdeal 0 [some (.ref p0), some (.int a1), none] [] w Q) : zEv X d kc ks MX5_isIdeal [.ref p0, .int a1] w Q :=
  zEv.of (by decide) (Nat.le_of_ble_eq_true rfl) (Or.inr (by simp [Value.category])) h
set_option maxRecDepth 100000 in
set_option maxHeartbeats 4000000 in
theorem bX5_freeOf_0 {X : zX} {d kc ks : Nat} {w : zW} {Q : Option Value → zW → Prop} (p0 : Nat) (a1 : Int32)
    (h : zIs w p0 5 ∧ zCallI X d MX5_has [.ref p0, .int a1] w (fun x2 w1 => if x2 = 0 then (Q (some (.int 0)) w1) else (zIs w1 p0 5 ∧ zCallI X d MX5_all [.ref p0] w1 (fun x4 w3 => ∃ r5, zfR w3 p0 5 0 = some r5 ∧ (∃ x6, zaI w3 r5 a1 = some x6 ∧ (∃ r7, zfR w3 p0 5 1 = some r7 ∧ (∃ x8, zaI w3 r7 a1 = some x8 ∧ (Q (some (.int (x4 &&& (((x6 ||| x8) ||| ((1 : Int32) <<< (a1 &&& 31))) ^^^ (-1))))) w3)))))))) :
    zRn X d kc ks MX5_freeOf 0 [some (.ref p0), some (.int a1)] [] w Q := by
  refine z_aload_n p0 dX5_freeOf_0 rfl rfl ?_
  refine z_iload_n a1 dX5_freeOf_1 rfl rfl ?_
  refine zq_VI (N := MX5_has) (As := [.int a1]) m_X5_46 dX5_freeOf_2 rfl rfl (Nat.le_of_ble_eq_true rfl) h (fun x2 w1 h => ?_)
  refine z_if_eq 35 dX5_freeOf_5 rfl (fun hc => ?_) (fun hc => ?_)
  · rw [if_pos hc] at h
    refine z_iconst 0 dX5_freeOf_35 rfl ?_
    exact z_ireturn .int dX5_freeOf_36 rfl rfl h
  · rw [if_neg hc] at h
    refine z_aload_n p0 dX5_freeOf_8 rfl rfl ?_
    refine zq_VI (N := MX5_all) (As := []) m_X5_50 dX5_freeOf_9 rfl rfl (Nat.le_of_ble_eq_true rfl) h (fun x4 w3 h => ?_)
    refine z_aload_n p0 dX5_freeOf_12 rfl rfl ?_
    obtain ⟨r5, e, h⟩ := h
    refine zq_fR f_X5_9 dX5_freeOf_13 e ?_
    refine z_iload_n a1 dX5_freeOf_16 rfl rfl ?_
    obtain ⟨x6, e, h⟩ := h
    refine zq_aI dX5_freeOf_17 e ?_
    refine z_aload_n p0 dX5_freeOf_18 rfl rfl ?_
    obtain ⟨r7, e, h⟩ := h
    refine zq_fR f_X5_15 dX5_freeOf_19 e ?_
    refine z_iload_n a1 dX5_freeOf_22 rfl rfl ?_
    obtain ⟨x8, e, h⟩ := h
    refine zq_aI dX5_freeOf_23 e ?_
    refine z_ior dX5_freeOf_24 ?_
    refine z_iconst 1 dX5_freeOf_25 rfl ?_
    refine z_iload_n a1 dX5_freeOf_26 rfl rfl ?_
    refine z_ishl dX5_freeOf_27 ?_
    refine z_ior dX5_freeOf_28 ?_
    refine z_iconst (-1) dX5_freeOf_29 rfl ?_
    refine z_ixor dX5_freeOf_30 ?_
    refine z_iand dX5_freeOf_31 ?_
    refine z_goto 36 dX5_freeOf_32 rfl ?_
    exact z_ireturn .int dX5_freeOf_36 rfl rfl h
theorem eX5_freeOf {X : zX} {d kc ks : Nat} {w : zW} {Q : Option Value → zW → Prop} (p0 : Nat) (a1 : Int32) (h : zRn X d kc ks MX5_freeOf 0 [some (.ref p0), some (.int a1)] [] w Q) : zEv X d kc ks MX5_freeOf [.ref p0, .int a1] w Q :=
  zEv.of (by decide) (Nat.le_of_ble_eq_true rfl) (Or.inr (by simp [Value.category])) h
set_option maxRecDepth 100000 in
set_option maxHeartbeats 4000000 in
theorem bX5_coversOf_0 {X : zX} {d kc ks : Nat} {w : zW} {Q : Option Value → zW → Prop} (p0 : Nat) (a1 : Int32)
    (h : zIs w p0 5 ∧ zCallI X d MX5_aboveOf [.ref p0, .int a1] w (fun x2 w1 => zRn X d kc ks MX5_coversOf 8 [some (.ref p0), some (.int a1), some (.int x2), some (.int 0)] [] w1 Q)) :
    zRn X d kc ks MX5_coversOf 0 [some (.ref p0), some (.int a1), none, none] [] w Q := by
  refine z_aload_n p0 dX5_coversOf_0 rfl rfl ?_
  refine z_iload_n a1 dX5_coversOf_1 rfl rfl ?_
  refine zq_VI (N := MX5_aboveOf) (As := [.int a1]) m_X5_62 dX5_coversOf_2 rfl rfl (Nat.le_of_ble_eq_true rfl) h (fun x2 w1 h => ?_)
  refine z_istore_n (i := 2) dX5_coversOf_5 rfl (by decide) rfl ?_
  refine z_iconst 0 dX5_coversOf_6 rfl ?_
  refine z_istore_n (i := 3) dX5_coversOf_7 rfl (by decide) rfl ?_
  exact h
set_option maxRecDepth 100000 in
set_option maxHeartbeats 4000000 in
theorem bX5_coversOf_8 {X : zX} {d kc ks : Nat} {w : zW} {Q : Option Value → zW → Prop} (v0 : Nat) (v1 : Int32) (v2 : Int32) (v3 : Int32)
    (h : ∃ x1, zfI w v0 5 3 = some x1 ∧ (if x1 ≤ v3 then (Q (some (.int v2)) w) else (zIs w v0 5 ∧ zCallI X d MX5_under [.ref v0, .int v1, .int v3] w (fun x3 w2 => if x3 = 0 then (zRn X d kc ks MX5_coversOf 36 [some (.ref v0), some (.int v1), some (.int v2), some (.int v3)] [] w2 Q) else (∃ r4, zfR w2 v0 5 1 = some r4 ∧ (∃ x5, zaI w2 r4 v3 = some x5 ∧ (zRn X d kc ks MX5_coversOf 36 [some (.ref v0), some (.int v1), some (.int (v2 &&& (x5 ^^^ (-1)))), some (.int v3)] [] w2 Q))))))) :
    zRn X d kc ks MX5_coversOf 8 [some (.ref v0), some (.int v1), some (.int v2), some (.int v3)] [] w Q := by
  refine z_iload_n v3 dX5_coversOf_8 rfl rfl ?_
  refine z_aload_n v0 dX5_coversOf_9 rfl rfl ?_
  obtain ⟨x1, e, h⟩ := h
  refine zq_fI f_X5_25 dX5_coversOf_10 e ?_
  refine z_icmp_ge 42 dX5_coversOf_13 rfl (fun hc => ?_) (fun hc => ?_)
  · rw [if_pos hc] at h
    refine z_iload_n v2 dX5_coversOf_42 rfl rfl ?_
    exact z_ireturn .int dX5_coversOf_43 rfl rfl h
  · rw [if_neg hc] at h
    refine z_aload_n v0 dX5_coversOf_16 rfl rfl ?_
    refine z_iload_n v1 dX5_coversOf_17 rfl rfl ?_
    refine z_iload_n v3 dX5_coversOf_18 rfl rfl ?_
    refine zq_VI (N := MX5_under) (As := [.int v1, .int v3]) m_X5_58 dX5_coversOf_19 rfl rfl (Nat.le_of_ble_eq_true rfl) h (fun x3 w2 h => ?_)
    refine z_if_eq 36 dX5_coversOf_22 rfl (fun hc => ?_) (fun hc => ?_)
    · rw [if_pos hc] at h
      exact h
    · rw [if_neg hc] at h
      refine z_iload_n v2 dX5_coversOf_25 rfl rfl ?_
      refine z_aload_n v0 dX5_coversOf_26 rfl rfl ?_
      obtain ⟨r4, e, h⟩ := h
      refine zq_fR f_X5_15 dX5_coversOf_27 e ?_
      refine z_iload_n v3 dX5_coversOf_30 rfl rfl ?_
      obtain ⟨x5, e, h⟩ := h
      refine zq_aI dX5_coversOf_31 e ?_
      refine z_iconst (-1) dX5_coversOf_32 rfl ?_
      refine z_ixor dX5_coversOf_33 ?_
      refine z_iand dX5_coversOf_34 ?_
      refine z_istore_n (i := 2) dX5_coversOf_35 rfl (by decide) rfl ?_
      exact h
set_option maxRecDepth 100000 in
set_option maxHeartbeats 4000000 in
theorem bX5_coversOf_36 {X : zX} {d kc ks : Nat} {w : zW} {Q : Option Value → zW → Prop} (v0 : Nat) (v1 : Int32) (v2 : Int32) (v3 : Int32)
    (h : zRn X d kc ks MX5_coversOf 8 [some (.ref v0), some (.int v1), some (.int v2), some (.int (v3 + 1))] [] w Q) :
    zRn X d kc ks MX5_coversOf 36 [some (.ref v0), some (.int v1), some (.int v2), some (.int v3)] [] w Q := by
  refine z_iinc (i := 3) v3 (v3 + 1) dX5_coversOf_36 rfl rfl (by decide) rfl ?_
  refine z_goto 8 dX5_coversOf_39 rfl ?_
  exact h
theorem eX5_coversOf {X : zX} {d kc ks : Nat} {w : zW} {Q : Option Value → zW → Prop} (p0 : Nat) (a1 : Int32) (h : zRn X d kc ks MX5_coversOf 0 [some (.ref p0), some (.int a1), none, none] [] w Q) : zEv X d kc ks MX5_coversOf [.ref p0, .int a1] w Q :=
  zEv.of (by decide) (Nat.le_of_ble_eq_true rfl) (Or.inr (by simp [Value.category])) h
set_option maxRecDepth 100000 in
set_option maxHeartbeats 4000000 in
theorem bX5_canFollow_0 {X : zX} {d kc ks : Nat} {w : zW} {Q : Option Value → zW → Prop} (p0 : Nat) (a1 : Int32) (a2 : Int32)
    (h : zIs w p0 5 ∧ zCallI X d MX5_has [.ref p0, .int a2] w (fun x2 w1 => if x2 = 0 then (Q (some (.int 0)) w1) else (if ((a1 >>> (a2 &&& 31)) &&& 1) = 0 then (∃ r3, zfR w1 p0 5 0 = some r3 ∧ (∃ x4, zaI w1 r3 a2 = some x4 ∧ (if (x4 &&& (a1 ^^^ (-1))) = 0 then (Q (some (.int 1)) w1) else (Q (some (.int 0)) w1)))) else (Q (some (.int 0)) w1)))) :
    zRn X d kc ks MX5_canFollow 0 [some (.ref p0), some (.int a1), some (.int a2)] [] w Q := by
  refine z_aload_n p0 dX5_canFollow_0 rfl rfl ?_
  refine z_iload_n a2 dX5_canFollow_1 rfl rfl ?_
  refine zq_VI (N := MX5_has) (As := [.int a2]) m_X5_46 dX5_canFollow_2 rfl rfl (Nat.le_of_ble_eq_true rfl) h (fun x2 w1 h => ?_)
  refine z_if_eq 33 dX5_canFollow_5 rfl (fun hc => ?_) (fun hc => ?_)
  · rw [if_pos hc] at h
    refine z_iconst 0 dX5_canFollow_33 rfl ?_
    exact z_ireturn .boolean dX5_canFollow_34 rfl rfl h
  · rw [if_neg hc] at h
    refine z_iload_n a1 dX5_canFollow_8 rfl rfl ?_
    refine z_iload_n a2 dX5_canFollow_9 rfl rfl ?_
    refine z_ishr dX5_canFollow_10 ?_
    refine z_iconst 1 dX5_canFollow_11 rfl ?_
    refine z_iand dX5_canFollow_12 ?_
    refine z_if_ne 33 dX5_canFollow_13 rfl (fun hc => ?_) (fun hc => ?_)
    · rw [if_neg hc] at h
      refine z_iconst 0 dX5_canFollow_33 rfl ?_
      exact z_ireturn .boolean dX5_canFollow_34 rfl rfl h
    · rw [if_pos hc] at h
      refine z_aload_n p0 dX5_canFollow_16 rfl rfl ?_
      obtain ⟨r3, e, h⟩ := h
      refine zq_fR f_X5_9 dX5_canFollow_17 e ?_
      refine z_iload_n a2 dX5_canFollow_20 rfl rfl ?_
      obtain ⟨x4, e, h⟩ := h
      refine zq_aI dX5_canFollow_21 e ?_
      refine z_iload_n a1 dX5_canFollow_22 rfl rfl ?_
      refine z_iconst (-1) dX5_canFollow_23 rfl ?_
      refine z_ixor dX5_canFollow_24 ?_
      refine z_iand dX5_canFollow_25 ?_
      refine z_if_ne 33 dX5_canFollow_26 rfl (fun hc => ?_) (fun hc => ?_)
      · rw [if_neg hc] at h
        refine z_iconst 0 dX5_canFollow_33 rfl ?_
        exact z_ireturn .boolean dX5_canFollow_34 rfl rfl h
      · rw [if_pos hc] at h
        refine z_iconst 1 dX5_canFollow_29 rfl ?_
        refine z_goto 34 dX5_canFollow_30 rfl ?_
        exact z_ireturn .boolean dX5_canFollow_34 rfl rfl h
theorem eX5_canFollow {X : zX} {d kc ks : Nat} {w : zW} {Q : Option Value → zW → Prop} (p0 : Nat) (a1 : Int32) (a2 : Int32) (h : zRn X d kc ks MX5_canFollow 0 [some (.ref p0), some (.int a1), some (.int a2)] [] w Q) : zEv X d kc ks MX5_canFollow [.ref p0, .int a1, .int a2] w Q :=
  zEv.of (by decide) (Nat.le_of_ble_eq_true rfl) (Or.inr (by simp [Value.category])) h
set_option maxRecDepth 100000 in
set_option maxHeartbeats 4000000 in
theorem bX5_jumpsIn_0 {X : zX} {d kc ks : Nat} {w : zW} {Q : Option Value → zW → Prop} (p0 : Nat) (a1 : Int32)
    (h : zRn X d kc ks MX5_jumpsIn 4 [some (.ref p0), some (.int a1), some (.int 0), some (.int 1)] [] w Q) :
    zRn X d kc ks MX5_jumpsIn 0 [some (.ref p0), some (.int a1), none, none] [] w Q := by
  refine z_iconst 0 dX5_jumpsIn_0 rfl ?_
  refine z_istore_n (i := 2) dX5_jumpsIn_1 rfl (by decide) rfl ?_
  refine z_iconst 1 dX5_jumpsIn_2 rfl ?_
  refine z_istore_n (i := 3) dX5_jumpsIn_3 rfl (by decide) rfl ?_
  exact h
set_option maxRecDepth 100000 in
set_option maxHeartbeats 4000000 in
theorem bX5_jumpsIn_4 {X : zX} {d kc ks : Nat} {w : zW} {Q : Option Value → zW → Prop} (v0 : Nat) (v1 : Int32) (v2 : Int32) (v3 : Int32)
    (h : ∃ x1, zfI w v0 5 3 = some x1 ∧ (if x1 ≤ v3 then (Q (some (.int v2)) w) else (∃ r2, zfR w v0 5 2 = some r2 ∧ (zIs w r2 8 ∧ zCallI X d MX8_thingAt [.ref r2, .int v1, .int (v3 - 1)] w (fun x4 w3 => ∃ r5, zfR w3 v0 5 2 = some r5 ∧ (zIs w3 r5 8 ∧ zCallI X d MX8_thingAt [.ref r5, .int v1, .int v3] w3 (fun x7 w6 => zIs w6 v0 5 ∧ zCallI X d MX5_under [.ref v0, .int x4, .int x7] w6 (fun x9 w8 => if x9 = 0 then (zRn X d kc ks MX5_jumpsIn 42 [some (.ref v0), some (.int v1), some (.int (v2 + 1)), some (.int v3)] [] w8 Q) else (zRn X d kc ks MX5_jumpsIn 42 [some (.ref v0), some (.int v1), some (.int v2), some (.int v3)] [] w8 Q))))))))) :
    zRn X d kc ks MX5_jumpsIn 4 [some (.ref v0), some (.int v1), some (.int v2), some (.int v3)] [] w Q := by
  refine z_iload_n v3 dX5_jumpsIn_4 rfl rfl ?_
  refine z_aload_n v0 dX5_jumpsIn_5 rfl rfl ?_
  obtain ⟨x1, e, h⟩ := h
  refine zq_fI f_X5_25 dX5_jumpsIn_6 e ?_
  refine z_icmp_ge 48 dX5_jumpsIn_9 rfl (fun hc => ?_) (fun hc => ?_)
  · rw [if_pos hc] at h
    refine z_iload_n v2 dX5_jumpsIn_48 rfl rfl ?_
    exact z_ireturn .int dX5_jumpsIn_49 rfl rfl h
  · rw [if_neg hc] at h
    refine z_aload_n v0 dX5_jumpsIn_12 rfl rfl ?_
    refine z_aload_n v0 dX5_jumpsIn_13 rfl rfl ?_
    obtain ⟨r2, e, h⟩ := h
    refine zq_fR f_X5_21 dX5_jumpsIn_14 e ?_
    refine z_iload_n v1 dX5_jumpsIn_17 rfl rfl ?_
    refine z_iload_n v3 dX5_jumpsIn_18 rfl rfl ?_
    refine z_iconst 1 dX5_jumpsIn_19 rfl ?_
    refine z_isub dX5_jumpsIn_20 ?_
    refine zq_VI (N := MX8_thingAt) (As := [.int v1, .int (v3 - 1)]) m_X5_91 dX5_jumpsIn_21 rfl rfl (Nat.le_of_ble_eq_true rfl) h (fun x4 w3 h => ?_)
    refine z_aload_n v0 dX5_jumpsIn_24 rfl rfl ?_
    obtain ⟨r5, e, h⟩ := h
    refine zq_fR f_X5_21 dX5_jumpsIn_25 e ?_
    refine z_iload_n v1 dX5_jumpsIn_28 rfl rfl ?_
    refine z_iload_n v3 dX5_jumpsIn_29 rfl rfl ?_
    refine zq_VI (N := MX8_thingAt) (As := [.int v1, .int v3]) m_X5_91 dX5_jumpsIn_30 rfl rfl (Nat.le_of_ble_eq_true rfl) h (fun x7 w6 h => ?_)
    refine zq_VI (N := MX5_under) (As := [.int x4, .int x7]) m_X5_58 dX5_jumpsIn_33 rfl rfl (Nat.le_of_ble_eq_true rfl) h (fun x9 w8 h => ?_)
    refine z_if_ne 42 dX5_jumpsIn_36 rfl (fun hc => ?_) (fun hc => ?_)
    · rw [if_neg hc] at h
      exact h
    · rw [if_pos hc] at h
      refine z_iinc (i := 2) v2 (v2 + 1) dX5_jumpsIn_39 rfl rfl (by decide) rfl ?_
      exact h
set_option maxRecDepth 100000 in
set_option maxHeartbeats 4000000 in
theorem bX5_jumpsIn_42 {X : zX} {d kc ks : Nat} {w : zW} {Q : Option Value → zW → Prop} (v0 : Nat) (v1 : Int32) (v2 : Int32) (v3 : Int32)
    (h : zRn X d kc ks MX5_jumpsIn 4 [some (.ref v0), some (.int v1), some (.int v2), some (.int (v3 + 1))] [] w Q) :
    zRn X d kc ks MX5_jumpsIn 42 [some (.ref v0), some (.int v1), some (.int v2), some (.int v3)] [] w Q := by
  refine z_iinc (i := 3) v3 (v3 + 1) dX5_jumpsIn_42 rfl rfl (by decide) rfl ?_
  refine z_goto 4 dX5_jumpsIn_45 rfl ?_
  exact h
theorem eX5_jumpsIn {X : zX} {d kc ks : Nat} {w : zW} {Q : Option Value → zW → Prop} (p0 : Nat) (a1 : Int32) (h : zRn X d kc ks MX5_jumpsIn 0 [some (.ref p0), some (.int a1), none, none] [] w Q) : zEv X d kc ks MX5_jumpsIn [.ref p0, .int a1] w Q :=
  zEv.of (by decide) (Nat.le_of_ble_eq_true rfl) (Or.inr (by simp [Value.category])) h
set_option maxRecDepth 100000 in
set_option maxHeartbeats 4000000 in
theorem bX5_allRowsAreLines_0 {X : zX} {d kc ks : Nat} {w : zW} {Q : Option Value → zW → Prop} (p0 : Nat)
    (h : zRn X d kc ks MX5_allRowsAreLines 2 [some (.ref p0), some (.int 0), none, none, none] [] w Q) :
    zRn X d kc ks MX5_allRowsAreLines 0 [some (.ref p0), none, none, none, none] [] w Q := by
  refine z_iconst 0 dX5_allRowsAreLines_0 rfl ?_
  refine z_istore_n (i := 1) dX5_allRowsAreLines_1 rfl (by decide) rfl ?_
  exact h
set_option maxRecDepth 100000 in
set_option maxHeartbeats 4000000 in
theorem bX5_allRowsAreLines_2 {X : zX} {d kc ks : Nat} {w : zW} {Q : Option Value → zW → Prop} (v0 : Nat) (v1 : Int32)
    (h : ∃ r1, zfR w v0 5 2 = some r1 ∧ (zIs w r1 8 ∧ zCallI X d MX8_size [.ref r1] w (fun x3 w2 => if x3 ≤ v1 then (Q (some (.int 1)) w2) else (zRn X d kc ks MX5_allRowsAreLines 17 [some (.ref v0), some (.int v1), some (.int 0), some (.int 0), none] [] w2 Q)))) :
    zRn X d kc ks MX5_allRowsAreLines 2 [some (.ref v0), some (.int v1), none, none, none] [] w Q := by
  refine z_iload_n v1 dX5_allRowsAreLines_2 rfl rfl ?_
  refine z_aload_n v0 dX5_allRowsAreLines_3 rfl rfl ?_
  obtain ⟨r1, e, h⟩ := h
  refine zq_fR f_X5_21 dX5_allRowsAreLines_4 e ?_
  refine zq_VI (N := MX8_size) (As := []) m_X5_94 dX5_allRowsAreLines_7 rfl rfl (Nat.le_of_ble_eq_true rfl) h (fun x3 w2 h => ?_)
  refine z_icmp_ge 67 dX5_allRowsAreLines_10 rfl (fun hc => ?_) (fun hc => ?_)
  · rw [if_pos hc] at h
    refine z_iconst 1 dX5_allRowsAreLines_67 rfl ?_
    exact z_ireturn .boolean dX5_allRowsAreLines_68 rfl rfl h
  · rw [if_neg hc] at h
    refine z_iconst 0 dX5_allRowsAreLines_13 rfl ?_
    refine z_istore_n (i := 2) dX5_allRowsAreLines_14 rfl (by decide) rfl ?_
    refine z_iconst 0 dX5_allRowsAreLines_15 rfl ?_
    refine z_istore_n (i := 3) dX5_allRowsAreLines_16 rfl (by decide) rfl ?_
    exact h
set_option maxRecDepth 100000 in
set_option maxHeartbeats 4000000 in
theorem bX5_allRowsAreLines_17 {X : zX} {d kc ks : Nat} {w : zW} {Q : Option Value → zW → Prop} (v0 : Nat) (v1 : Int32) (v2 : Int32) (v3 : Int32)
    (h : ∃ x1, zfI w v0 5 3 = some x1 ∧ (if x1 ≤ v3 then (zRn X d kc ks MX5_allRowsAreLines 2 [some (.ref v0), some (.int (v1 + 1)), none, none, none] [] w Q) else (∃ r2, zfR w v0 5 2 = some r2 ∧ (zIs w r2 8 ∧ zCallI X d MX8_thingAt [.ref r2, .int v1, .int v3] w (fun x4 w3 => zIs w3 v0 5 ∧ zCallI X d MX5_canFollow [.ref v0, .int v2, .int x4] w3 (fun x6 w5 => if x6 = 0 then (Q (some (.int 0)) w5) else (zRn X d kc ks MX5_allRowsAreLines 17 [some (.ref v0), some (.int v1), some (.int (v2 ||| ((1 : Int32) <<< (x4 &&& 31)))), some (.int (v3 + 1)), none] [] w5 Q))))))) :
    zRn X d kc ks MX5_allRowsAreLines 17 [some (.ref v0), some (.int v1), some (.int v2), some (.int v3), none] [] w Q := by
  refine z_iload_n v3 dX5_allRowsAreLines_17 rfl rfl ?_
  refine z_aload_n v0 dX5_allRowsAreLines_18 rfl rfl ?_
  obtain ⟨x1, e, h⟩ := h
  refine zq_fI f_X5_25 dX5_allRowsAreLines_19 e ?_
  refine z_icmp_ge 61 dX5_allRowsAreLines_22 rfl (fun hc => ?_) (fun hc => ?_)
  · rw [if_pos hc] at h
    refine z_iinc (i := 1) v1 (v1 + 1) dX5_allRowsAreLines_61 rfl rfl (by decide) rfl ?_
    refine z_goto 2 dX5_allRowsAreLines_64 rfl ?_
    exact zRn.weak h (zLe_of [true, true, false, false, true] (And.intro rfl (And.intro rfl (And.intro rfl (And.intro rfl (And.intro rfl (trivial)))))))
  · rw [if_neg hc] at h
    refine z_aload_n v0 dX5_allRowsAreLines_25 rfl rfl ?_
    obtain ⟨r2, e, h⟩ := h
    refine zq_fR f_X5_21 dX5_allRowsAreLines_26 e ?_
    refine z_iload_n v1 dX5_allRowsAreLines_29 rfl rfl ?_
    refine z_iload_n v3 dX5_allRowsAreLines_30 rfl rfl ?_
    refine zq_VI (N := MX8_thingAt) (As := [.int v1, .int v3]) m_X5_91 dX5_allRowsAreLines_31 rfl rfl (Nat.le_of_ble_eq_true rfl) h (fun x4 w3 h => ?_)
    refine z_istore (i := 4) dX5_allRowsAreLines_34 (by decide) rfl ?_
    refine z_aload_n v0 dX5_allRowsAreLines_36 rfl rfl ?_
    refine z_iload_n v2 dX5_allRowsAreLines_37 rfl rfl ?_
    refine z_iload x4 dX5_allRowsAreLines_38 rfl ?_
    refine zq_VI (N := MX5_canFollow) (As := [.int v2, .int x4]) m_X5_96 dX5_allRowsAreLines_40 rfl rfl (Nat.le_of_ble_eq_true rfl) h (fun x6 w5 h => ?_)
    refine z_if_ne 48 dX5_allRowsAreLines_43 rfl (fun hc => ?_) (fun hc => ?_)
    · rw [if_neg hc] at h
      refine z_iload_n v2 dX5_allRowsAreLines_48 rfl rfl ?_
      refine z_iconst 1 dX5_allRowsAreLines_49 rfl ?_
      refine z_iload x4 dX5_allRowsAreLines_50 rfl ?_
      refine z_ishl dX5_allRowsAreLines_52 ?_
      refine z_ior dX5_allRowsAreLines_53 ?_
      refine z_istore_n (i := 2) dX5_allRowsAreLines_54 rfl (by decide) rfl ?_
      refine z_iinc (i := 3) v3 (v3 + 1) dX5_allRowsAreLines_55 rfl rfl (by decide) rfl ?_
      refine z_goto 17 dX5_allRowsAreLines_58 rfl ?_
      exact zRn.weak h (zLe_of [true, true, true, true, false] (And.intro rfl (And.intro rfl (And.intro rfl (And.intro rfl (And.intro rfl (trivial)))))))
    · rw [if_pos hc] at h
      refine z_iconst 0 dX5_allRowsAreLines_46 rfl ?_
      exact z_ireturn .boolean dX5_allRowsAreLines_47 rfl rfl h
theorem eX5_allRowsAreLines {X : zX} {d kc ks : Nat} {w : zW} {Q : Option Value → zW → Prop} (p0 : Nat) (h : zRn X d kc ks MX5_allRowsAreLines 0 [some (.ref p0), none, none, none, none] [] w Q) : zEv X d kc ks MX5_allRowsAreLines [.ref p0] w Q :=
  zEv.of (by decide) (Nat.le_of_ble_eq_true rfl) (Or.inr (by simp [Value.category])) h
set_option maxRecDepth 100000 in
set_option maxHeartbeats 4000000 in
theorem bX5_rowsRealize_0 {X : zX} {d kc ks : Nat} {w : zW} {Q : Option Value → zW → Prop} (p0 : Nat)
    (h : ∃ r1, zfR w p0 5 2 = some r1 ∧ (zIs w r1 8 ∧ zCallI X d MX8_size [.ref r1] w (fun x3 w2 => if x3 = 0 then (Q (some (.int 0)) w2) else (zIs w2 p0 5 ∧ zCallI X d MX5_allRowsAreLines [.ref p0] w2 (fun x5 w4 => if x5 = 0 then (Q (some (.int 0)) w4) else (zRn X d kc ks MX5_rowsRealize 21 [some (.ref p0), some (.int 0)] [] w4 Q)))))) :
    zRn X d kc ks MX5_rowsRealize 0 [some (.ref p0), none] [] w Q := by
  refine z_aload_n p0 dX5_rowsRealize_0 rfl rfl ?_
  obtain ⟨r1, e, h⟩ := h
  refine zq_fR f_X5_21 dX5_rowsRealize_1 e ?_
  refine zq_VI (N := MX8_size) (As := []) m_X5_94 dX5_rowsRealize_4 rfl rfl (Nat.le_of_ble_eq_true rfl) h (fun x3 w2 h => ?_)
  refine z_if_eq 17 dX5_rowsRealize_7 rfl (fun hc => ?_) (fun hc => ?_)
  · rw [if_pos hc] at h
    refine z_iconst 0 dX5_rowsRealize_17 rfl ?_
    exact z_ireturn .boolean dX5_rowsRealize_18 rfl rfl h
  · rw [if_neg hc] at h
    refine z_aload_n p0 dX5_rowsRealize_10 rfl rfl ?_
    refine zq_VI (N := MX5_allRowsAreLines) (As := []) m_X5_99 dX5_rowsRealize_11 rfl rfl (Nat.le_of_ble_eq_true rfl) h (fun x5 w4 h => ?_)
    refine z_if_ne 19 dX5_rowsRealize_14 rfl (fun hc => ?_) (fun hc => ?_)
    · rw [if_neg hc] at h
      refine z_iconst 0 dX5_rowsRealize_19 rfl ?_
      refine z_istore_n (i := 1) dX5_rowsRealize_20 rfl (by decide) rfl ?_
      exact h
    · rw [if_pos hc] at h
      refine z_iconst 0 dX5_rowsRealize_17 rfl ?_
      exact z_ireturn .boolean dX5_rowsRealize_18 rfl rfl h
set_option maxRecDepth 100000 in
set_option maxHeartbeats 4000000 in
theorem bX5_rowsRealize_21 {X : zX} {d kc ks : Nat} {w : zW} {Q : Option Value → zW → Prop} (v0 : Nat) (v1 : Int32)
    (h : ∃ x1, zfI w v0 5 3 = some x1 ∧ (if x1 ≤ v1 then (Q (some (.int 1)) w) else (zIs w v0 5 ∧ zCallI X d MX5_alwaysAheadOf [.ref v0, .int v1] w (fun x3 w2 => zIs w2 v0 5 ∧ zCallI X d MX5_freeOf [.ref v0, .int v1] w2 (fun x5 w4 => if (x3 &&& x5) = 0 then (zRn X d kc ks MX5_rowsRealize 21 [some (.ref v0), some (.int (v1 + 1))] [] w4 Q) else (Q (some (.int 0)) w4)))))) :
    zRn X d kc ks MX5_rowsRealize 21 [some (.ref v0), some (.int v1)] [] w Q := by
  refine z_iload_n v1 dX5_rowsRealize_21 rfl rfl ?_
  refine z_aload_n v0 dX5_rowsRealize_22 rfl rfl ?_
  obtain ⟨x1, e, h⟩ := h
  refine zq_fI f_X5_25 dX5_rowsRealize_23 e ?_
  refine z_icmp_ge 51 dX5_rowsRealize_26 rfl (fun hc => ?_) (fun hc => ?_)
  · rw [if_pos hc] at h
    refine z_iconst 1 dX5_rowsRealize_51 rfl ?_
    exact z_ireturn .boolean dX5_rowsRealize_52 rfl rfl h
  · rw [if_neg hc] at h
    refine z_aload_n v0 dX5_rowsRealize_29 rfl rfl ?_
    refine z_iload_n v1 dX5_rowsRealize_30 rfl rfl ?_
    refine zq_VI (N := MX5_alwaysAheadOf) (As := [.int v1]) m_X5_103 dX5_rowsRealize_31 rfl rfl (Nat.le_of_ble_eq_true rfl) h (fun x3 w2 h => ?_)
    refine z_aload_n v0 dX5_rowsRealize_34 rfl rfl ?_
    refine z_iload_n v1 dX5_rowsRealize_35 rfl rfl ?_
    refine zq_VI (N := MX5_freeOf) (As := [.int v1]) m_X5_106 dX5_rowsRealize_36 rfl rfl (Nat.le_of_ble_eq_true rfl) h (fun x5 w4 h => ?_)
    refine z_iand dX5_rowsRealize_39 ?_
    refine z_if_eq 45 dX5_rowsRealize_40 rfl (fun hc => ?_) (fun hc => ?_)
    · rw [if_pos hc] at h
      refine z_iinc (i := 1) v1 (v1 + 1) dX5_rowsRealize_45 rfl rfl (by decide) rfl ?_
      refine z_goto 21 dX5_rowsRealize_48 rfl ?_
      exact h
    · rw [if_neg hc] at h
      refine z_iconst 0 dX5_rowsRealize_43 rfl ?_
      exact z_ireturn .boolean dX5_rowsRealize_44 rfl rfl h
theorem eX5_rowsRealize {X : zX} {d kc ks : Nat} {w : zW} {Q : Option Value → zW → Prop} (p0 : Nat) (h : zRn X d kc ks MX5_rowsRealize 0 [some (.ref p0), none] [] w Q) : zEv X d kc ks MX5_rowsRealize [.ref p0] w Q :=
  zEv.of (by decide) (Nat.le_of_ble_eq_true rfl) (Or.inr (by simp [Value.category])) h
set_option maxRecDepth 100000 in
set_option maxHeartbeats 4000000 in
theorem bX5_alwaysAheadOf_0 {X : zX} {d kc ks : Nat} {w : zW} {Q : Option Value → zW → Prop} (p0 : Nat) (a1 : Int32)
    (h : zIs w p0 5 ∧ zCallI X d MX5_all [.ref p0] w (fun x2 w1 => zRn X d kc ks MX5_alwaysAheadOf 13 [some (.ref p0), some (.int a1), some (.int (x2 &&& (((1 : Int32) <<< (a1 &&& 31)) ^^^ (-1)))), some (.int 0), none] [] w1 Q)) :
    zRn X d kc ks MX5_alwaysAheadOf 0 [some (.ref p0), some (.int a1), none, none, none] [] w Q := by
  refine z_aload_n p0 dX5_alwaysAheadOf_0 rfl rfl ?_
  refine zq_VI (N := MX5_all) (As := []) m_X5_50 dX5_alwaysAheadOf_1 rfl rfl (Nat.le_of_ble_eq_true rfl) h (fun x2 w1 h => ?_)
  refine z_iconst 1 dX5_alwaysAheadOf_4 rfl ?_
  refine z_iload_n a1 dX5_alwaysAheadOf_5 rfl rfl ?_
  refine z_ishl dX5_alwaysAheadOf_6 ?_
  refine z_iconst (-1) dX5_alwaysAheadOf_7 rfl ?_
  refine z_ixor dX5_alwaysAheadOf_8 ?_
  refine z_iand dX5_alwaysAheadOf_9 ?_
  refine z_istore_n (i := 2) dX5_alwaysAheadOf_10 rfl (by decide) rfl ?_
  refine z_iconst 0 dX5_alwaysAheadOf_11 rfl ?_
  refine z_istore_n (i := 3) dX5_alwaysAheadOf_12 rfl (by decide) rfl ?_
  exact h
set_option maxRecDepth 100000 in
set_option maxHeartbeats 4000000 in
theorem bX5_alwaysAheadOf_13 {X : zX} {d kc ks : Nat} {w : zW} {Q : Option Value → zW → Prop} (v0 : Nat) (v1 : Int32) (v2 : Int32) (v3 : Int32)
    (h : ∃ r1, zfR w v0 5 2 = some r1 ∧ (zIs w r1 8 ∧ zCallI X d MX8_size [.ref r1] w (fun x3 w2 => if x3 ≤ v3 then (Q (some (.int v2)) w2) else (zRn X d kc ks MX5_alwaysAheadOf 27 [some (.ref v0), some (.int v1), some (.int v2), some (.int v3), some (.int 0)] [] w2 Q)))) :
    zRn X d kc ks MX5_alwaysAheadOf 13 [some (.ref v0), some (.int v1), some (.int v2), some (.int v3), none] [] w Q := by
  refine z_iload_n v3 dX5_alwaysAheadOf_13 rfl rfl ?_
  refine z_aload_n v0 dX5_alwaysAheadOf_14 rfl rfl ?_
  obtain ⟨r1, e, h⟩ := h
  refine zq_fR f_X5_21 dX5_alwaysAheadOf_15 e ?_
  refine zq_VI (N := MX8_size) (As := []) m_X5_94 dX5_alwaysAheadOf_18 rfl rfl (Nat.le_of_ble_eq_true rfl) h (fun x3 w2 h => ?_)
  refine z_icmp_ge 75 dX5_alwaysAheadOf_21 rfl (fun hc => ?_) (fun hc => ?_)
  · rw [if_pos hc] at h
    refine z_iload_n v2 dX5_alwaysAheadOf_75 rfl rfl ?_
    exact z_ireturn .int dX5_alwaysAheadOf_76 rfl rfl h
  · rw [if_neg hc] at h
    refine z_iconst 0 dX5_alwaysAheadOf_24 rfl ?_
    refine z_istore (i := 4) dX5_alwaysAheadOf_25 (by decide) rfl ?_
    exact h
set_option maxRecDepth 100000 in
set_option maxHeartbeats 4000000 in
theorem bX5_alwaysAheadOf_27 {X : zX} {d kc ks : Nat} {w : zW} {Q : Option Value → zW → Prop} (v0 : Nat) (v1 : Int32) (v2 : Int32) (v3 : Int32) (v4 : Int32)
    (h : ∃ x1, zfI w v0 5 3 = some x1 ∧ (if x1 ≤ v4 then (zRn X d kc ks MX5_alwaysAheadOf 13 [some (.ref v0), some (.int v1), some (.int v2), some (.int (v3 + 1)), none] [] w Q) else (∃ r2, zfR w v0 5 2 = some r2 ∧ (∃ x3, zfI w v0 5 3 = some x3 ∧ (zIs w r2 8 ∧ zCallI X d MX8_comesAhead [.ref r2, .int v3, .int v4, .int v1, .int x3] w (fun x5 w4 => if x5 = 0 then (zRn X d kc ks MX5_alwaysAheadOf 63 [some (.ref v0), some (.int v1), some (.int (v2 &&& (((1 : Int32) <<< (v4 &&& 31)) ^^^ (-1)))), some (.int v3), some (.int v4)] [] w4 Q) else (zRn X d kc ks MX5_alwaysAheadOf 63 [some (.ref v0), some (.int v1), some (.int v2), some (.int v3), some (.int v4)] [] w4 Q))))))) :
    zRn X d kc ks MX5_alwaysAheadOf 27 [some (.ref v0), some (.int v1), some (.int v2), some (.int v3), some (.int v4)] [] w Q := by
  refine z_iload v4 dX5_alwaysAheadOf_27 rfl ?_
  refine z_aload_n v0 dX5_alwaysAheadOf_29 rfl rfl ?_
  obtain ⟨x1, e, h⟩ := h
  refine zq_fI f_X5_25 dX5_alwaysAheadOf_30 e ?_
  refine z_icmp_ge 69 dX5_alwaysAheadOf_33 rfl (fun hc => ?_) (fun hc => ?_)
  · rw [if_pos hc] at h
    refine z_iinc (i := 3) v3 (v3 + 1) dX5_alwaysAheadOf_69 rfl rfl (by decide) rfl ?_
    refine z_goto 13 dX5_alwaysAheadOf_72 rfl ?_
    exact zRn.weak h (zLe_of [true, true, true, true, false] (And.intro rfl (And.intro rfl (And.intro rfl (And.intro rfl (And.intro rfl (trivial)))))))
  · rw [if_neg hc] at h
    refine z_aload_n v0 dX5_alwaysAheadOf_36 rfl rfl ?_
    obtain ⟨r2, e, h⟩ := h
    refine zq_fR f_X5_21 dX5_alwaysAheadOf_37 e ?_
    refine z_iload_n v3 dX5_alwaysAheadOf_40 rfl rfl ?_
    refine z_iload v4 dX5_alwaysAheadOf_41 rfl ?_
    refine z_iload_n v1 dX5_alwaysAheadOf_43 rfl rfl ?_
    refine z_aload_n v0 dX5_alwaysAheadOf_44 rfl rfl ?_
    obtain ⟨x3, e, h⟩ := h
    refine zq_fI f_X5_25 dX5_alwaysAheadOf_45 e ?_
    refine zq_VI (N := MX8_comesAhead) (As := [.int v3, .int v4, .int v1, .int x3]) m_X5_109 dX5_alwaysAheadOf_48 rfl rfl (Nat.le_of_ble_eq_true rfl) h (fun x5 w4 h => ?_)
    refine z_if_ne 63 dX5_alwaysAheadOf_51 rfl (fun hc => ?_) (fun hc => ?_)
    · rw [if_neg hc] at h
      exact h
    · rw [if_pos hc] at h
      refine z_iload_n v2 dX5_alwaysAheadOf_54 rfl rfl ?_
      refine z_iconst 1 dX5_alwaysAheadOf_55 rfl ?_
      refine z_iload v4 dX5_alwaysAheadOf_56 rfl ?_
      refine z_ishl dX5_alwaysAheadOf_58 ?_
      refine z_iconst (-1) dX5_alwaysAheadOf_59 rfl ?_
      refine z_ixor dX5_alwaysAheadOf_60 ?_
      refine z_iand dX5_alwaysAheadOf_61 ?_
      refine z_istore_n (i := 2) dX5_alwaysAheadOf_62 rfl (by decide) rfl ?_
      exact h
set_option maxRecDepth 100000 in
set_option maxHeartbeats 4000000 in
theorem bX5_alwaysAheadOf_63 {X : zX} {d kc ks : Nat} {w : zW} {Q : Option Value → zW → Prop} (v0 : Nat) (v1 : Int32) (v2 : Int32) (v3 : Int32) (v4 : Int32)
    (h : zRn X d kc ks MX5_alwaysAheadOf 27 [some (.ref v0), some (.int v1), some (.int v2), some (.int v3), some (.int (v4 + 1))] [] w Q) :
    zRn X d kc ks MX5_alwaysAheadOf 63 [some (.ref v0), some (.int v1), some (.int v2), some (.int v3), some (.int v4)] [] w Q := by
  refine z_iinc (i := 4) v4 (v4 + 1) dX5_alwaysAheadOf_63 rfl rfl (by decide) rfl ?_
  refine z_goto 27 dX5_alwaysAheadOf_66 rfl ?_
  exact h
theorem eX5_alwaysAheadOf {X : zX} {d kc ks : Nat} {w : zW} {Q : Option Value → zW → Prop} (p0 : Nat) (a1 : Int32) (h : zRn X d kc ks MX5_alwaysAheadOf 0 [some (.ref p0), some (.int a1), none, none, none] [] w Q) : zEv X d kc ks MX5_alwaysAheadOf [.ref p0, .int a1] w Q :=
  zEv.of (by decide) (Nat.le_of_ble_eq_true rfl) (Or.inr (by simp [Value.category])) h
set_option maxRecDepth 100000 in
set_option maxHeartbeats 4000000 in
theorem bX5_unlink_0 {X : zX} {d kc ks : Nat} {w : zW} {Q : Option Value → zW → Prop} (p0 : Nat) (a1 : Int32) (a2 : Int32)
    (h : zIs w p0 5 ∧ zCallI X d MX5_has [.ref p0, .int a1] w (fun x2 w1 => if x2 = 0 then (Q none w1) else (zIs w1 p0 5 ∧ zCallI X d MX5_has [.ref p0, .int a2] w1 (fun x4 w3 => if x4 = 0 then (Q none w3) else (∃ r5, zfR w3 p0 5 0 = some r5 ∧ (∃ x6, zaI w3 r5 a2 = some x6 ∧ (∃ w7, zsI w3 r5 a2 (x6 &&& (((1 : Int32) <<< (a1 &&& 31)) ^^^ (-1))) = some w7 ∧ (∃ r8, zfR w7 p0 5 1 = some r8 ∧ (∃ x9, zaI w7 r8 a1 = some x9 ∧ (∃ w10, zsI w7 r8 a1 (x9 &&& (((1 : Int32) <<< (a2 &&& 31)) ^^^ (-1))) = some w10 ∧ (Q none w10))))))))))) :
    zRn X d kc ks MX5_unlink 0 [some (.ref p0), some (.int a1), some (.int a2)] [] w Q := by
  refine z_aload_n p0 dX5_unlink_0 rfl rfl ?_
  refine z_iload_n a1 dX5_unlink_1 rfl rfl ?_
  refine zq_VI (N := MX5_has) (As := [.int a1]) m_X5_46 dX5_unlink_2 rfl rfl (Nat.le_of_ble_eq_true rfl) h (fun x2 w1 h => ?_)
  refine z_if_eq 44 dX5_unlink_5 rfl (fun hc => ?_) (fun hc => ?_)
  · rw [if_pos hc] at h
    exact z_vreturn dX5_unlink_44 rfl h
  · rw [if_neg hc] at h
    refine z_aload_n p0 dX5_unlink_8 rfl rfl ?_
    refine z_iload_n a2 dX5_unlink_9 rfl rfl ?_
    refine zq_VI (N := MX5_has) (As := [.int a2]) m_X5_46 dX5_unlink_10 rfl rfl (Nat.le_of_ble_eq_true rfl) h (fun x4 w3 h => ?_)
    refine z_if_eq 44 dX5_unlink_13 rfl (fun hc => ?_) (fun hc => ?_)
    · rw [if_pos hc] at h
      exact z_vreturn dX5_unlink_44 rfl h
    · rw [if_neg hc] at h
      refine z_aload_n p0 dX5_unlink_16 rfl rfl ?_
      obtain ⟨r5, e, h⟩ := h
      refine zq_fR f_X5_9 dX5_unlink_17 e ?_
      refine z_iload_n a2 dX5_unlink_20 rfl rfl ?_
      refine z_dup2 dX5_unlink_21 rfl rfl ?_
      obtain ⟨x6, e, h⟩ := h
      refine zq_aI dX5_unlink_22 e ?_
      refine z_iconst 1 dX5_unlink_23 rfl ?_
      refine z_iload_n a1 dX5_unlink_24 rfl rfl ?_
      refine z_ishl dX5_unlink_25 ?_
      refine z_iconst (-1) dX5_unlink_26 rfl ?_
      refine z_ixor dX5_unlink_27 ?_
      refine z_iand dX5_unlink_28 ?_
      obtain ⟨w7, e, h⟩ := h
      refine zq_sI dX5_unlink_29 e ?_
      refine z_aload_n p0 dX5_unlink_30 rfl rfl ?_
      obtain ⟨r8, e, h⟩ := h
      refine zq_fR f_X5_15 dX5_unlink_31 e ?_
      refine z_iload_n a1 dX5_unlink_34 rfl rfl ?_
      refine z_dup2 dX5_unlink_35 rfl rfl ?_
      obtain ⟨x9, e, h⟩ := h
      refine zq_aI dX5_unlink_36 e ?_
      refine z_iconst 1 dX5_unlink_37 rfl ?_
      refine z_iload_n a2 dX5_unlink_38 rfl rfl ?_
      refine z_ishl dX5_unlink_39 ?_
      refine z_iconst (-1) dX5_unlink_40 rfl ?_
      refine z_ixor dX5_unlink_41 ?_
      refine z_iand dX5_unlink_42 ?_
      obtain ⟨w10, e, h⟩ := h
      refine zq_sI dX5_unlink_43 e ?_
      exact z_vreturn dX5_unlink_44 rfl h
theorem eX5_unlink {X : zX} {d kc ks : Nat} {w : zW} {Q : Option Value → zW → Prop} (p0 : Nat) (a1 : Int32) (a2 : Int32) (h : zRn X d kc ks MX5_unlink 0 [some (.ref p0), some (.int a1), some (.int a2)] [] w Q) : zEv X d kc ks MX5_unlink [.ref p0, .int a1, .int a2] w Q :=
  zEv.of (by decide) (Nat.le_of_ble_eq_true rfl) (Or.inr (by simp [Value.category])) h
set_option maxRecDepth 100000 in
set_option maxHeartbeats 4000000 in
theorem bX5_turnOver_0 {X : zX} {d kc ks : Nat} {w : zW} {Q : Option Value → zW → Prop} (p0 : Nat)
    (h : zRn X d kc ks MX5_turnOver 2 [some (.ref p0), some (.int 0), none] [] w Q) :
    zRn X d kc ks MX5_turnOver 0 [some (.ref p0), none, none] [] w Q := by
  refine z_iconst 0 dX5_turnOver_0 rfl ?_
  refine z_istore_n (i := 1) dX5_turnOver_1 rfl (by decide) rfl ?_
  exact h
set_option maxRecDepth 100000 in
set_option maxHeartbeats 4000000 in
theorem bX5_turnOver_2 {X : zX} {d kc ks : Nat} {w : zW} {Q : Option Value → zW → Prop} (v0 : Nat) (v1 : Int32)
    (h : ∃ x1, zfI w v0 5 3 = some x1 ∧ (if x1 ≤ v1 then (∃ r2, zfR w v0 5 2 = some r2 ∧ (∃ x3, zfI w v0 5 3 = some x3 ∧ (zIs w r2 8 ∧ zCallV X d MX8_turnOver [.ref r2, .int x3] w (fun w4 => Q none w4)))) else (∃ r5, zfR w v0 5 0 = some r5 ∧ (∃ x6, zaI w r5 v1 = some x6 ∧ (∃ r7, zfR w v0 5 0 = some r7 ∧ (∃ r8, zfR w v0 5 1 = some r8 ∧ (∃ x9, zaI w r8 v1 = some x9 ∧ (∃ w10, zsI w r7 v1 x9 = some w10 ∧ (∃ r11, zfR w10 v0 5 1 = some r11 ∧ (∃ w12, zsI w10 r11 v1 x6 = some w12 ∧ (zRn X d kc ks MX5_turnOver 2 [some (.ref v0), some (.int (v1 + 1)), none] [] w12 Q))))))))))) :
    zRn X d kc ks MX5_turnOver 2 [some (.ref v0), some (.int v1), none] [] w Q := by
  refine z_iload_n v1 dX5_turnOver_2 rfl rfl ?_
  refine z_aload_n v0 dX5_turnOver_3 rfl rfl ?_
  obtain ⟨x1, e, h⟩ := h
  refine zq_fI f_X5_25 dX5_turnOver_4 e ?_
  refine z_icmp_ge 42 dX5_turnOver_7 rfl (fun hc => ?_) (fun hc => ?_)
  · rw [if_pos hc] at h
    refine z_aload_n v0 dX5_turnOver_42 rfl rfl ?_
    obtain ⟨r2, e, h⟩ := h
    refine zq_fR f_X5_21 dX5_turnOver_43 e ?_
    refine z_aload_n v0 dX5_turnOver_46 rfl rfl ?_
    obtain ⟨x3, e, h⟩ := h
    refine zq_fI f_X5_25 dX5_turnOver_47 e ?_
    refine zq_VV (N := MX8_turnOver) (As := [.int x3]) m_X5_76 dX5_turnOver_50 rfl rfl (Nat.le_of_ble_eq_true rfl) h (fun w4 h => ?_)
    exact z_vreturn dX5_turnOver_53 rfl h
  · rw [if_neg hc] at h
    refine z_aload_n v0 dX5_turnOver_10 rfl rfl ?_
    obtain ⟨r5, e, h⟩ := h
    refine zq_fR f_X5_9 dX5_turnOver_11 e ?_
    refine z_iload_n v1 dX5_turnOver_14 rfl rfl ?_
    obtain ⟨x6, e, h⟩ := h
    refine zq_aI dX5_turnOver_15 e ?_
    refine z_istore_n (i := 2) dX5_turnOver_16 rfl (by decide) rfl ?_
    refine z_aload_n v0 dX5_turnOver_17 rfl rfl ?_
    obtain ⟨r7, e, h⟩ := h
    refine zq_fR f_X5_9 dX5_turnOver_18 e ?_
    refine z_iload_n v1 dX5_turnOver_21 rfl rfl ?_
    refine z_aload_n v0 dX5_turnOver_22 rfl rfl ?_
    obtain ⟨r8, e, h⟩ := h
    refine zq_fR f_X5_15 dX5_turnOver_23 e ?_
    refine z_iload_n v1 dX5_turnOver_26 rfl rfl ?_
    obtain ⟨x9, e, h⟩ := h
    refine zq_aI dX5_turnOver_27 e ?_
    obtain ⟨w10, e, h⟩ := h
    refine zq_sI dX5_turnOver_28 e ?_
    refine z_aload_n v0 dX5_turnOver_29 rfl rfl ?_
    obtain ⟨r11, e, h⟩ := h
    refine zq_fR f_X5_15 dX5_turnOver_30 e ?_
    refine z_iload_n v1 dX5_turnOver_33 rfl rfl ?_
    refine z_iload_n x6 dX5_turnOver_34 rfl rfl ?_
    obtain ⟨w12, e, h⟩ := h
    refine zq_sI dX5_turnOver_35 e ?_
    refine z_iinc (i := 1) v1 (v1 + 1) dX5_turnOver_36 rfl rfl (by decide) rfl ?_
    refine z_goto 2 dX5_turnOver_39 rfl ?_
    exact zRn.weak h (zLe_of [true, true, false] (And.intro rfl (And.intro rfl (And.intro rfl (trivial)))))
theorem eX5_turnOver {X : zX} {d kc ks : Nat} {w : zW} {Q : Option Value → zW → Prop} (p0 : Nat) (h : zRn X d kc ks MX5_turnOver 0 [some (.ref p0), none, none] [] w Q) : zEv X d kc ks MX5_turnOver [.ref p0] w Q :=
  zEv.of (by decide) (Nat.le_of_ble_eq_true rfl) (Or.inr (by simp [Value.category])) h
set_option maxRecDepth 100000 in
set_option maxHeartbeats 4000000 in
theorem bX5_leaveOut_0 {X : zX} {d kc ks : Nat} {w : zW} {Q : Option Value → zW → Prop} (p0 : Nat) (a1 : Int32)
    (h : zIs w p0 5 ∧ zCallI X d MX5_has [.ref p0, .int a1] w (fun x2 w1 => if x2 = 0 then (Q none w1) else (∃ r3, zfR w1 p0 5 2 = some r3 ∧ (∃ x4, zfI w1 p0 5 3 = some x4 ∧ (zIs w1 r3 8 ∧ zCallV X d MX8_leaveOut [.ref r3, .int a1, .int x4] w1 (fun w5 => zRn X d kc ks MX5_leaveOut 23 [some (.ref p0), some (.int a1), some (.int 0), none] [] w5 Q)))))) :
    zRn X d kc ks MX5_leaveOut 0 [some (.ref p0), some (.int a1), none, none] [] w Q := by
  refine z_aload_n p0 dX5_leaveOut_0 rfl rfl ?_
  refine z_iload_n a1 dX5_leaveOut_1 rfl rfl ?_
  refine zq_VI (N := MX5_has) (As := [.int a1]) m_X5_46 dX5_leaveOut_2 rfl rfl (Nat.le_of_ble_eq_true rfl) h (fun x2 w1 h => ?_)
  refine z_if_ne 9 dX5_leaveOut_5 rfl (fun hc => ?_) (fun hc => ?_)
  · rw [if_neg hc] at h
    refine z_aload_n p0 dX5_leaveOut_9 rfl rfl ?_
    obtain ⟨r3, e, h⟩ := h
    refine zq_fR f_X5_21 dX5_leaveOut_10 e ?_
    refine z_iload_n a1 dX5_leaveOut_13 rfl rfl ?_
    refine z_aload_n p0 dX5_leaveOut_14 rfl rfl ?_
    obtain ⟨x4, e, h⟩ := h
    refine zq_fI f_X5_25 dX5_leaveOut_15 e ?_
    refine zq_VV (N := MX8_leaveOut) (As := [.int a1, .int x4]) m_X5_80 dX5_leaveOut_18 rfl rfl (Nat.le_of_ble_eq_true rfl) h (fun w5 h => ?_)
    refine z_iconst 0 dX5_leaveOut_21 rfl ?_
    refine z_istore_n (i := 2) dX5_leaveOut_22 rfl (by decide) rfl ?_
    exact h
  · rw [if_pos hc] at h
    exact z_vreturn dX5_leaveOut_8 rfl h
set_option maxRecDepth 100000 in
set_option maxHeartbeats 4000000 in
theorem bX5_leaveOut_23 {X : zX} {d kc ks : Nat} {w : zW} {Q : Option Value → zW → Prop} (v0 : Nat) (v1 : Int32) (v2 : Int32)
    (h : ∃ x1, zfI w v0 5 3 = some x1 ∧ (if x1 ≤ v2 then (∃ x2, zfI w v0 5 3 = some x2 ∧ (∃ w3, zsF w v0 5 3 (.int (x2 - 1)) = some w3 ∧ (Q none w3))) else (if v2 ≤ v1 then (zRn X d kc ks MX5_leaveOut 43 [some (.ref v0), some (.int v1), some (.int v2), none] [.int v2] w Q) else (zRn X d kc ks MX5_leaveOut 43 [some (.ref v0), some (.int v1), some (.int v2), none] [.int (v2 - 1)] w Q)))) :
    zRn X d kc ks MX5_leaveOut 23 [some (.ref v0), some (.int v1), some (.int v2), none] [] w Q := by
  refine z_iload_n v2 dX5_leaveOut_23 rfl rfl ?_
  refine z_aload_n v0 dX5_leaveOut_24 rfl rfl ?_
  obtain ⟨x1, e, h⟩ := h
  refine zq_fI f_X5_25 dX5_leaveOut_25 e ?_
  refine z_icmp_ge 87 dX5_leaveOut_28 rfl (fun hc => ?_) (fun hc => ?_)
  · rw [if_pos hc] at h
    refine z_aload_n v0 dX5_leaveOut_87 rfl rfl ?_
    refine z_dup dX5_leaveOut_88 rfl ?_
    obtain ⟨x2, e, h⟩ := h
    refine zq_fI f_X5_25 dX5_leaveOut_89 e ?_
    refine z_iconst 1 dX5_leaveOut_92 rfl ?_
    refine z_isub dX5_leaveOut_93 ?_
    obtain ⟨w3, e, h⟩ := h
    refine zq_sF f_X5_25 dX5_leaveOut_94 (fun _ => rfl) (fun _ => rfl) e ?_
    exact z_vreturn dX5_leaveOut_97 rfl h
  · rw [if_neg hc] at h
    refine z_iload_n v2 dX5_leaveOut_31 rfl rfl ?_
    refine z_iload_n v1 dX5_leaveOut_32 rfl rfl ?_
    refine z_icmp_le 42 dX5_leaveOut_33 rfl (fun hc => ?_) (fun hc => ?_)
    · rw [if_pos hc] at h
      refine z_iload_n v2 dX5_leaveOut_42 rfl rfl ?_
      exact h
    · rw [if_neg hc] at h
      refine z_iload_n v2 dX5_leaveOut_36 rfl rfl ?_
      refine z_iconst 1 dX5_leaveOut_37 rfl ?_
      refine z_isub dX5_leaveOut_38 ?_
      refine z_goto 43 dX5_leaveOut_39 rfl ?_
      exact h
set_option maxRecDepth 100000 in
set_option maxHeartbeats 4000000 in
theorem bX5_leaveOut_43 {X : zX} {d kc ks : Nat} {w : zW} {Q : Option Value → zW → Prop} (v0 : Nat) (v1 : Int32) (v2 : Int32) (u0 : Int32)
    (h : if v2 = v1 then (zRn X d kc ks MX5_leaveOut 81 [some (.ref v0), some (.int v1), some (.int v2), none] [] w Q) else (∃ r1, zfR w v0 5 0 = some r1 ∧ (∃ r2, zfR w v0 5 0 = some r2 ∧ (∃ x3, zaI w r2 v2 = some x3 ∧ (zCallI X d MX5_closeGap [.int x3, .int v1] w (fun x5 w4 => ∃ w6, zsI w4 r1 u0 x5 = some w6 ∧ (∃ r7, zfR w6 v0 5 1 = some r7 ∧ (∃ r8, zfR w6 v0 5 1 = some r8 ∧ (∃ x9, zaI w6 r8 v2 = some x9 ∧ (zCallI X d MX5_closeGap [.int x9, .int v1] w6 (fun x11 w10 => ∃ w12, zsI w10 r7 u0 x11 = some w12 ∧ (zRn X d kc ks MX5_leaveOut 81 [some (.ref v0), some (.int v1), some (.int v2), none] [] w12 Q)))))))))))) :
    zRn X d kc ks MX5_leaveOut 43 [some (.ref v0), some (.int v1), some (.int v2), none] [.int u0] w Q := by
  refine z_istore_n (i := 3) dX5_leaveOut_43 rfl (by decide) rfl ?_
  refine z_iload_n v2 dX5_leaveOut_44 rfl rfl ?_
  refine z_iload_n v1 dX5_leaveOut_45 rfl rfl ?_
  refine z_icmp_eq 81 dX5_leaveOut_46 rfl (fun hc => ?_) (fun hc => ?_)
  · rw [if_pos hc] at h
    exact zRn.weak h (zLe_of [true, true, true, false] (And.intro rfl (And.intro rfl (And.intro rfl (And.intro rfl (trivial))))))
  · rw [if_neg hc] at h
    refine z_aload_n v0 dX5_leaveOut_49 rfl rfl ?_
    obtain ⟨r1, e, h⟩ := h
    refine zq_fR f_X5_9 dX5_leaveOut_50 e ?_
    refine z_iload_n u0 dX5_leaveOut_53 rfl rfl ?_
    refine z_aload_n v0 dX5_leaveOut_54 rfl rfl ?_
    obtain ⟨r2, e, h⟩ := h
    refine zq_fR f_X5_9 dX5_leaveOut_55 e ?_
    refine z_iload_n v2 dX5_leaveOut_58 rfl rfl ?_
    obtain ⟨x3, e, h⟩ := h
    refine zq_aI dX5_leaveOut_59 e ?_
    refine z_iload_n v1 dX5_leaveOut_60 rfl rfl ?_
    refine zq_SI (N := MX5_closeGap) (As := [.int x3, .int v1]) m_X5_84 dX5_leaveOut_61 rfl rfl (Nat.le_of_ble_eq_true rfl) h (fun x5 w4 h => ?_)
    obtain ⟨w6, e, h⟩ := h
    refine zq_sI dX5_leaveOut_64 e ?_
    refine z_aload_n v0 dX5_leaveOut_65 rfl rfl ?_
    obtain ⟨r7, e, h⟩ := h
    refine zq_fR f_X5_15 dX5_leaveOut_66 e ?_
    refine z_iload_n u0 dX5_leaveOut_69 rfl rfl ?_
    refine z_aload_n v0 dX5_leaveOut_70 rfl rfl ?_
    obtain ⟨r8, e, h⟩ := h
    refine zq_fR f_X5_15 dX5_leaveOut_71 e ?_
    refine z_iload_n v2 dX5_leaveOut_74 rfl rfl ?_
    obtain ⟨x9, e, h⟩ := h
    refine zq_aI dX5_leaveOut_75 e ?_
    refine z_iload_n v1 dX5_leaveOut_76 rfl rfl ?_
    refine zq_SI (N := MX5_closeGap) (As := [.int x9, .int v1]) m_X5_84 dX5_leaveOut_77 rfl rfl (Nat.le_of_ble_eq_true rfl) h (fun x11 w10 h => ?_)
    obtain ⟨w12, e, h⟩ := h
    refine zq_sI dX5_leaveOut_80 e ?_
    exact zRn.weak h (zLe_of [true, true, true, false] (And.intro rfl (And.intro rfl (And.intro rfl (And.intro rfl (trivial))))))
set_option maxRecDepth 100000 in
set_option maxHeartbeats 4000000 in
theorem bX5_leaveOut_81 {X : zX} {d kc ks : Nat} {w : zW} {Q : Option Value → zW → Prop} (v0 : Nat) (v1 : Int32) (v2 : Int32)
    (h : zRn X d kc ks MX5_leaveOut 23 [some (.ref v0), some (.int v1), some (.int (v2 + 1)), none] [] w Q) :
    zRn X d kc ks MX5_leaveOut 81 [some (.ref v0), some (.int v1), some (.int v2), none] [] w Q := by
  refine z_iinc (i := 2) v2 (v2 + 1) dX5_leaveOut_81 rfl rfl (by decide) rfl ?_
  refine z_goto 23 dX5_leaveOut_84 rfl ?_
  exact h
theorem eX5_leaveOut {X : zX} {d kc ks : Nat} {w : zW} {Q : Option Value → zW → Prop} (p0 : Nat) (a1 : Int32) (h : zRn X d kc ks MX5_leaveOut 0 [some (.ref p0), some (.int a1), none, none] [] w Q) : zEv X d kc ks MX5_leaveOut [.ref p0, .int a1] w Q :=
  zEv.of (by decide) (Nat.le_of_ble_eq_true rfl) (Or.inr (by simp [Value.category])) h
set_option maxRecDepth 100000 in
set_option maxHeartbeats 4000000 in
theorem bX5_closeGap_0 {X : zX} {d kc ks : Nat} {w : zW} {Q : Option Value → zW → Prop} (a0 : Int32) (a1 : Int32)
    (h : Q (some (.int ((a0 &&& (((1 : Int32) <<< (a1 &&& 31)) - 1)) ||| ((a0 >>> ((a1 + 1) &&& 31)) <<< (a1 &&& 31))))) w) :
    zRn X d kc ks MX5_closeGap 0 [some (.int a0), some (.int a1), none] [] w Q := by
  refine z_iload_n a0 dX5_closeGap_0 rfl rfl ?_
  refine z_iconst 1 dX5_closeGap_1 rfl ?_
  refine z_iload_n a1 dX5_closeGap_2 rfl rfl ?_
  refine z_ishl dX5_closeGap_3 ?_
  refine z_iconst 1 dX5_closeGap_4 rfl ?_
  refine z_isub dX5_closeGap_5 ?_
  refine z_iand dX5_closeGap_6 ?_
  refine z_istore_n (i := 2) dX5_closeGap_7 rfl (by decide) rfl ?_
  refine z_iload_n (a0 &&& (((1 : Int32) <<< (a1 &&& 31)) - 1)) dX5_closeGap_8 rfl rfl ?_
  refine z_iload_n a0 dX5_closeGap_9 rfl rfl ?_
  refine z_iload_n a1 dX5_closeGap_10 rfl rfl ?_
  refine z_iconst 1 dX5_closeGap_11 rfl ?_
  refine z_iadd dX5_closeGap_12 ?_
  refine z_ishr dX5_closeGap_13 ?_
  refine z_iload_n a1 dX5_closeGap_14 rfl rfl ?_
  refine z_ishl dX5_closeGap_15 ?_
  refine z_ior dX5_closeGap_16 ?_
  exact z_ireturn .int dX5_closeGap_17 rfl rfl h
theorem eX5_closeGap {X : zX} {d kc ks : Nat} {w : zW} {Q : Option Value → zW → Prop} (a0 : Int32) (a1 : Int32) (h : zRn X d kc ks MX5_closeGap 0 [some (.int a0), some (.int a1), none] [] w Q) : zEv X d kc ks MX5_closeGap [.int a0, .int a1] w Q :=
  zEv.of (by decide) (Nat.le_of_ble_eq_true rfl) (Or.inr (by simp [Value.category])) h
set_option maxRecDepth 100000 in
set_option maxHeartbeats 4000000 in
theorem bX5_unite_0 {X : zX} {d kc ks : Nat} {w : zW} {Q : Option Value → zW → Prop} (p0 : Nat) (p1 : Nat) (p2 : Nat) (a3 : Int32)
    (h : ∃ x1, zfI w p1 5 3 = some x1 ∧ (∃ x2, zfI w p2 5 3 = some x2 ∧ (zIs w p0 5 ∧ zCallV X d MX5_begin [.ref p0, .int (x1 + x2)] w (fun w3 => zRn X d kc ks MX5_unite 20 [some (.ref p0), some (.ref p1), some (.ref p2), some (.int a3), some (.int x1), some (.int 0)] [] w3 Q)))) :
    zRn X d kc ks MX5_unite 0 [some (.ref p0), some (.ref p1), some (.ref p2), some (.int a3), none, none] [] w Q := by
  refine z_aload_n p1 dX5_unite_0 rfl rfl ?_
  obtain ⟨x1, e, h⟩ := h
  refine zq_fI f_X5_25 dX5_unite_1 e ?_
  refine z_istore (i := 4) dX5_unite_4 (by decide) rfl ?_
  refine z_aload_n p0 dX5_unite_6 rfl rfl ?_
  refine z_iload x1 dX5_unite_7 rfl ?_
  refine z_aload_n p2 dX5_unite_9 rfl rfl ?_
  obtain ⟨x2, e, h⟩ := h
  refine zq_fI f_X5_25 dX5_unite_10 e ?_
  refine z_iadd dX5_unite_13 ?_
  refine zq_VV (N := MX5_begin) (As := [.int (x1 + x2)]) m_X5_88 dX5_unite_14 rfl rfl (Nat.le_of_ble_eq_true rfl) h (fun w3 h => ?_)
  refine z_iconst 0 dX5_unite_17 rfl ?_
  refine z_istore (i := 5) dX5_unite_18 (by decide) rfl ?_
  exact h
set_option maxRecDepth 100000 in
set_option maxHeartbeats 4000000 in
theorem bX5_unite_20 {X : zX} {d kc ks : Nat} {w : zW} {Q : Option Value → zW → Prop} (v0 : Nat) (v1 : Nat) (v2 : Nat) (v3 : Int32) (v4 : Int32) (v5 : Int32)
    (h : ∃ x1, zfI w v0 5 3 = some x1 ∧ (if x1 ≤ v5 then (Q none w) else (if v4 ≤ v5 then (∃ r2, zfR w v0 5 0 = some r2 ∧ (zIs w v2 5 ∧ zCallI X d MX5_belowOf [.ref v2, .int (v5 - v4)] w (fun x4 w3 => if v3 = 0 then (zRn X d kc ks MX5_unite 111 [some (.ref v0), some (.ref v1), some (.ref v2), some (.int v3), some (.int v4), some (.int v5)] [.int 0, .int (x4 <<< (v4 &&& 31)), .int v5, .ref r2] w3 Q) else (zIs w3 v1 5 ∧ zCallI X d MX5_all [.ref v1] w3 (fun x6 w5 => zRn X d kc ks MX5_unite 111 [some (.ref v0), some (.ref v1), some (.ref v2), some (.int v3), some (.int v4), some (.int v5)] [.int x6, .int (x4 <<< (v4 &&& 31)), .int v5, .ref r2] w5 Q))))) else (∃ r7, zfR w v0 5 0 = some r7 ∧ (zIs w v1 5 ∧ zCallI X d MX5_belowOf [.ref v1, .int v5] w (fun x9 w8 => ∃ w10, zsI w8 r7 v5 x9 = some w10 ∧ (∃ r11, zfR w10 v0 5 1 = some r11 ∧ (zIs w10 v1 5 ∧ zCallI X d MX5_aboveOf [.ref v1, .int v5] w10 (fun x13 w12 => if v3 = 0 then (zRn X d kc ks MX5_unite 76 [some (.ref v0), some (.ref v1), some (.ref v2), some (.int v3), some (.int v4), some (.int v5)] [.int 0, .int x13, .int v5, .ref r11] w12 Q) else (zIs w12 v2 5 ∧ zCallI X d MX5_all [.ref v2] w12 (fun x15 w14 => zRn X d kc ks MX5_unite 76 [some (.ref v0), some (.ref v1), some (.ref v2), some (.int v3), some (.int v4), some (.int v5)] [.int (x15 <<< (v4 &&& 31)), .int x13, .int v5, .ref r11] w14 Q))))))))))) :
    zRn X d kc ks MX5_unite 20 [some (.ref v0), some (.ref v1), some (.ref v2), some (.int v3), some (.int v4), some (.int v5)] [] w Q := by
  refine z_iload v5 dX5_unite_20 rfl ?_
  refine z_aload_n v0 dX5_unite_22 rfl rfl ?_
  obtain ⟨x1, e, h⟩ := h
  refine zq_fI f_X5_25 dX5_unite_23 e ?_
  refine z_icmp_ge 138 dX5_unite_26 rfl (fun hc => ?_) (fun hc => ?_)
  · rw [if_pos hc] at h
    exact z_vreturn dX5_unite_138 rfl h
  · rw [if_neg hc] at h
    refine z_iload v5 dX5_unite_29 rfl ?_
    refine z_iload v4 dX5_unite_31 rfl ?_
    refine z_icmp_ge 81 dX5_unite_33 rfl (fun hc => ?_) (fun hc => ?_)
    · rw [if_pos hc] at h
      refine z_aload_n v0 dX5_unite_81 rfl rfl ?_
      obtain ⟨r2, e, h⟩ := h
      refine zq_fR f_X5_9 dX5_unite_82 e ?_
      refine z_iload v5 dX5_unite_85 rfl ?_
      refine z_aload_n v2 dX5_unite_87 rfl rfl ?_
      refine z_iload v5 dX5_unite_88 rfl ?_
      refine z_iload v4 dX5_unite_90 rfl ?_
      refine z_isub dX5_unite_92 ?_
      refine zq_VI (N := MX5_belowOf) (As := [.int (v5 - v4)]) m_X5_54 dX5_unite_93 rfl rfl (Nat.le_of_ble_eq_true rfl) h (fun x4 w3 h => ?_)
      refine z_iload v4 dX5_unite_96 rfl ?_
      refine z_ishl dX5_unite_98 ?_
      refine z_iload_n v3 dX5_unite_99 rfl rfl ?_
      refine z_if_eq 110 dX5_unite_100 rfl (fun hc => ?_) (fun hc => ?_)
      · rw [if_pos hc] at h
        refine z_iconst 0 dX5_unite_110 rfl ?_
        exact h
      · rw [if_neg hc] at h
        refine z_aload_n v1 dX5_unite_103 rfl rfl ?_
        refine zq_VI (N := MX5_all) (As := []) m_X5_50 dX5_unite_104 rfl rfl (Nat.le_of_ble_eq_true rfl) h (fun x6 w5 h => ?_)
        refine z_goto 111 dX5_unite_107 rfl ?_
        exact h
    · rw [if_neg hc] at h
      refine z_aload_n v0 dX5_unite_36 rfl rfl ?_
      obtain ⟨r7, e, h⟩ := h
      refine zq_fR f_X5_9 dX5_unite_37 e ?_
      refine z_iload v5 dX5_unite_40 rfl ?_
      refine z_aload_n v1 dX5_unite_42 rfl rfl ?_
      refine z_iload v5 dX5_unite_43 rfl ?_
      refine zq_VI (N := MX5_belowOf) (As := [.int v5]) m_X5_54 dX5_unite_45 rfl rfl (Nat.le_of_ble_eq_true rfl) h (fun x9 w8 h => ?_)
      obtain ⟨w10, e, h⟩ := h
      refine zq_sI dX5_unite_48 e ?_
      refine z_aload_n v0 dX5_unite_49 rfl rfl ?_
      obtain ⟨r11, e, h⟩ := h
      refine zq_fR f_X5_15 dX5_unite_50 e ?_
      refine z_iload v5 dX5_unite_53 rfl ?_
      refine z_aload_n v1 dX5_unite_55 rfl rfl ?_
      refine z_iload v5 dX5_unite_56 rfl ?_
      refine zq_VI (N := MX5_aboveOf) (As := [.int v5]) m_X5_62 dX5_unite_58 rfl rfl (Nat.le_of_ble_eq_true rfl) h (fun x13 w12 h => ?_)
      refine z_iload_n v3 dX5_unite_61 rfl rfl ?_
      refine z_if_eq 75 dX5_unite_62 rfl (fun hc => ?_) (fun hc => ?_)
      · rw [if_pos hc] at h
        refine z_iconst 0 dX5_unite_75 rfl ?_
        exact h
      · rw [if_neg hc] at h
        refine z_aload_n v2 dX5_unite_65 rfl rfl ?_
        refine zq_VI (N := MX5_all) (As := []) m_X5_50 dX5_unite_66 rfl rfl (Nat.le_of_ble_eq_true rfl) h (fun x15 w14 h => ?_)
        refine z_iload v4 dX5_unite_69 rfl ?_
        refine z_ishl dX5_unite_71 ?_
        refine z_goto 76 dX5_unite_72 rfl ?_
        exact h
set_option maxRecDepth 100000 in
set_option maxHeartbeats 4000000 in
theorem bX5_unite_76 {X : zX} {d kc ks : Nat} {w : zW} {Q : Option Value → zW → Prop} (v0 : Nat) (v1 : Nat) (v2 : Nat) (v3 : Int32) (v4 : Int32) (v5 : Int32) (u0 : Int32) (u1 : Int32) (u2 : Int32) (u3 : Nat)
    (h : ∃ w1, zsI w u3 u2 (u1 ||| u0) = some w1 ∧ (zRn X d kc ks MX5_unite 132 [some (.ref v0), some (.ref v1), some (.ref v2), some (.int v3), some (.int v4), some (.int v5)] [] w1 Q)) :
    zRn X d kc ks MX5_unite 76 [some (.ref v0), some (.ref v1), some (.ref v2), some (.int v3), some (.int v4), some (.int v5)] [.int u0, .int u1, .int u2, .ref u3] w Q := by
  refine z_ior dX5_unite_76 ?_
  obtain ⟨w1, e, h⟩ := h
  refine zq_sI dX5_unite_77 e ?_
  refine z_goto 132 dX5_unite_78 rfl ?_
  exact h
set_option maxRecDepth 100000 in
set_option maxHeartbeats 4000000 in
theorem bX5_unite_111 {X : zX} {d kc ks : Nat} {w : zW} {Q : Option Value → zW → Prop} (v0 : Nat) (v1 : Nat) (v2 : Nat) (v3 : Int32) (v4 : Int32) (v5 : Int32) (u0 : Int32) (u1 : Int32) (u2 : Int32) (u3 : Nat)
    (h : ∃ w1, zsI w u3 u2 (u1 ||| u0) = some w1 ∧ (∃ r2, zfR w1 v0 5 1 = some r2 ∧ (zIs w1 v2 5 ∧ zCallI X d MX5_aboveOf [.ref v2, .int (v5 - v4)] w1 (fun x4 w3 => ∃ w5, zsI w3 r2 v5 (x4 <<< (v4 &&& 31)) = some w5 ∧ (zRn X d kc ks MX5_unite 132 [some (.ref v0), some (.ref v1), some (.ref v2), some (.int v3), some (.int v4), some (.int v5)] [] w5 Q))))) :
    zRn X d kc ks MX5_unite 111 [some (.ref v0), some (.ref v1), some (.ref v2), some (.int v3), some (.int v4), some (.int v5)] [.int u0, .int u1, .int u2, .ref u3] w Q := by
  refine z_ior dX5_unite_111 ?_
  obtain ⟨w1, e, h⟩ := h
  refine zq_sI dX5_unite_112 e ?_
  refine z_aload_n v0 dX5_unite_113 rfl rfl ?_
  obtain ⟨r2, e, h⟩ := h
  refine zq_fR f_X5_15 dX5_unite_114 e ?_
  refine z_iload v5 dX5_unite_117 rfl ?_
  refine z_aload_n v2 dX5_unite_119 rfl rfl ?_
  refine z_iload v5 dX5_unite_120 rfl ?_
  refine z_iload v4 dX5_unite_122 rfl ?_
  refine z_isub dX5_unite_124 ?_
  refine zq_VI (N := MX5_aboveOf) (As := [.int (v5 - v4)]) m_X5_62 dX5_unite_125 rfl rfl (Nat.le_of_ble_eq_true rfl) h (fun x4 w3 h => ?_)
  refine z_iload v4 dX5_unite_128 rfl ?_
  refine z_ishl dX5_unite_130 ?_
  obtain ⟨w5, e, h⟩ := h
  refine zq_sI dX5_unite_131 e ?_
  exact h
set_option maxRecDepth 100000 in
set_option maxHeartbeats 4000000 in
theorem bX5_unite_132 {X : zX} {d kc ks : Nat} {w : zW} {Q : Option Value → zW → Prop} (v0 : Nat) (v1 : Nat) (v2 : Nat) (v3 : Int32) (v4 : Int32) (v5 : Int32)
    (h : zRn X d kc ks MX5_unite 20 [some (.ref v0), some (.ref v1), some (.ref v2), some (.int v3), some (.int v4), some (.int (v5 + 1))] [] w Q) :
    zRn X d kc ks MX5_unite 132 [some (.ref v0), some (.ref v1), some (.ref v2), some (.int v3), some (.int v4), some (.int v5)] [] w Q := by
  refine z_iinc (i := 5) v5 (v5 + 1) dX5_unite_132 rfl rfl (by decide) rfl ?_
  refine z_goto 20 dX5_unite_135 rfl ?_
  exact h
theorem eX5_unite {X : zX} {d kc ks : Nat} {w : zW} {Q : Option Value → zW → Prop} (p0 : Nat) (p1 : Nat) (p2 : Nat) (a3 : Int32) (h : zRn X d kc ks MX5_unite 0 [some (.ref p0), some (.ref p1), some (.ref p2), some (.int a3), none, none] [] w Q) : zEv X d kc ks MX5_unite [.ref p0, .ref p1, .ref p2, .int a3] w Q :=
  zEv.of (by decide) (Nat.le_of_ble_eq_true rfl) (Or.inr (by simp [Value.category])) h
set_option maxRecDepth 100000 in
set_option maxHeartbeats 4000000 in
theorem bX5_writeTo_0 {X : zX} {d kc ks : Nat} {w : zW} {Q : Option Value → zW → Prop} (p0 : Nat) (p1 : Nat)
    (h : zIs w p1 0 ∧ zCallV X d MX0_putWord [.ref p1, .ref (zTx 2)] w (fun w1 => ∃ x2, zfI w1 p0 5 3 = some x2 ∧ (zIs w1 p1 0 ∧ zCallV X d MX0_putDigit [.ref p1, .int x2] w1 (fun w3 => zRn X d kc ks MX5_writeTo 18 [some (.ref p0), some (.ref p1), some (.int 1), some (.int 0), none, none] [] w3 Q)))) :
    zRn X d kc ks MX5_writeTo 0 [some (.ref p0), some (.ref p1), none, none, none, none] [] w Q := by
  refine z_aload_n p1 dX5_writeTo_0 rfl rfl ?_
  refine z_ldcS (q := 2) rfl dX5_writeTo_1 ?_
  refine zq_VV (N := MX0_putWord) (As := [.ref (zTx 2)]) m_X5_115 dX5_writeTo_3 rfl rfl (Nat.le_of_ble_eq_true rfl) h (fun w1 h => ?_)
  refine z_aload_n p1 dX5_writeTo_6 rfl rfl ?_
  refine z_aload_n p0 dX5_writeTo_7 rfl rfl ?_
  obtain ⟨x2, e, h⟩ := h
  refine zq_fI f_X5_25 dX5_writeTo_8 e ?_
  refine zq_VV (N := MX0_putDigit) (As := [.int x2]) m_X5_121 dX5_writeTo_11 rfl rfl (Nat.le_of_ble_eq_true rfl) h (fun w3 h => ?_)
  refine z_iconst 1 dX5_writeTo_14 rfl ?_
  refine z_istore_n (i := 2) dX5_writeTo_15 rfl (by decide) rfl ?_
  refine z_iconst 0 dX5_writeTo_16 rfl ?_
  refine z_istore_n (i := 3) dX5_writeTo_17 rfl (by decide) rfl ?_
  exact h
set_option maxRecDepth 100000 in
set_option maxHeartbeats 4000000 in
theorem bX5_writeTo_18 {X : zX} {d kc ks : Nat} {w : zW} {Q : Option Value → zW → Prop} (v0 : Nat) (v1 : Nat) (v2 : Int32) (v3 : Int32)
    (h : ∃ x1, zfI w v0 5 3 = some x1 ∧ (if x1 ≤ v3 then (zIs w v1 0 ∧ zCallV X d MX0_put [.ref v1, .int 59] w (fun w2 => zIs w2 v0 5 ∧ zCallV X d MX5_writeRows [.ref v0, .ref v1] w2 (fun w3 => Q none w3))) else (zIs w v0 5 ∧ zCallI X d MX5_coversOf [.ref v0, .int v3] w (fun x5 w4 => zRn X d kc ks MX5_writeTo 36 [some (.ref v0), some (.ref v1), some (.int v2), some (.int v3), some (.int x5), some (.int 0)] [] w4 Q)))) :
    zRn X d kc ks MX5_writeTo 18 [some (.ref v0), some (.ref v1), some (.int v2), some (.int v3), none, none] [] w Q := by
  refine z_iload_n v3 dX5_writeTo_18 rfl rfl ?_
  refine z_aload_n v0 dX5_writeTo_19 rfl rfl ?_
  obtain ⟨x1, e, h⟩ := h
  refine zq_fI f_X5_25 dX5_writeTo_20 e ?_
  refine z_icmp_ge 102 dX5_writeTo_23 rfl (fun hc => ?_) (fun hc => ?_)
  · rw [if_pos hc] at h
    refine z_aload_n v1 dX5_writeTo_102 rfl rfl ?_
    refine z_bipush 59 dX5_writeTo_103 rfl ?_
    refine zq_VV (N := MX0_put) (As := [.int 59]) m_X5_127 dX5_writeTo_105 rfl rfl (Nat.le_of_ble_eq_true rfl) h (fun w2 h => ?_)
    refine z_aload_n v0 dX5_writeTo_108 rfl rfl ?_
    refine z_aload_n v1 dX5_writeTo_109 rfl rfl ?_
    refine zq_VV (N := MX5_writeRows) (As := [.ref v1]) m_X5_130 dX5_writeTo_110 rfl rfl (Nat.le_of_ble_eq_true rfl) h (fun w3 h => ?_)
    exact z_vreturn dX5_writeTo_113 rfl h
  · rw [if_neg hc] at h
    refine z_aload_n v0 dX5_writeTo_26 rfl rfl ?_
    refine z_iload_n v3 dX5_writeTo_27 rfl rfl ?_
    refine zq_VI (N := MX5_coversOf) (As := [.int v3]) m_X5_124 dX5_writeTo_28 rfl rfl (Nat.le_of_ble_eq_true rfl) h (fun x5 w4 h => ?_)
    refine z_istore (i := 4) dX5_writeTo_31 (by decide) rfl ?_
    refine z_iconst 0 dX5_writeTo_33 rfl ?_
    refine z_istore (i := 5) dX5_writeTo_34 (by decide) rfl ?_
    exact h
set_option maxRecDepth 100000 in
set_option maxHeartbeats 4000000 in
theorem bX5_writeTo_36 {X : zX} {d kc ks : Nat} {w : zW} {Q : Option Value → zW → Prop} (v0 : Nat) (v1 : Nat) (v2 : Int32) (v3 : Int32) (v4 : Int32) (v5 : Int32)
    (h : ∃ x1, zfI w v0 5 3 = some x1 ∧ (if x1 ≤ v5 then (zRn X d kc ks MX5_writeTo 18 [some (.ref v0), some (.ref v1), some (.int v2), some (.int (v3 + 1)), none, none] [] w Q) else (if ((v4 >>> (v5 &&& 31)) &&& 1) = 1 then (if v2 = 0 then (zRn X d kc ks MX5_writeTo 68 [some (.ref v0), some (.ref v1), none, some (.int v3), some (.int v4), some (.int v5)] [.int 44, .ref v1] w Q) else (zRn X d kc ks MX5_writeTo 68 [some (.ref v0), some (.ref v1), none, some (.int v3), some (.int v4), some (.int v5)] [.int 58, .ref v1] w Q)) else (zRn X d kc ks MX5_writeTo 90 [some (.ref v0), some (.ref v1), some (.int v2), some (.int v3), some (.int v4), some (.int v5)] [] w Q)))) :
    zRn X d kc ks MX5_writeTo 36 [some (.ref v0), some (.ref v1), some (.int v2), some (.int v3), some (.int v4), some (.int v5)] [] w Q := by
  refine z_iload v5 dX5_writeTo_36 rfl ?_
  refine z_aload_n v0 dX5_writeTo_38 rfl rfl ?_
  obtain ⟨x1, e, h⟩ := h
  refine zq_fI f_X5_25 dX5_writeTo_39 e ?_
  refine z_icmp_ge 96 dX5_writeTo_42 rfl (fun hc => ?_) (fun hc => ?_)
  · rw [if_pos hc] at h
    refine z_iinc (i := 3) v3 (v3 + 1) dX5_writeTo_96 rfl rfl (by decide) rfl ?_
    refine z_goto 18 dX5_writeTo_99 rfl ?_
    exact zRn.weak h (zLe_of [true, true, true, true, false, false] (And.intro rfl (And.intro rfl (And.intro rfl (And.intro rfl (And.intro rfl (And.intro rfl (trivial))))))))
  · rw [if_neg hc] at h
    refine z_iload v4 dX5_writeTo_45 rfl ?_
    refine z_iload v5 dX5_writeTo_47 rfl ?_
    refine z_ishr dX5_writeTo_49 ?_
    refine z_iconst 1 dX5_writeTo_50 rfl ?_
    refine z_iand dX5_writeTo_51 ?_
    refine z_iconst 1 dX5_writeTo_52 rfl ?_
    refine z_icmp_ne 90 dX5_writeTo_53 rfl (fun hc => ?_) (fun hc => ?_)
    · rw [if_neg hc] at h
      exact h
    · rw [if_pos hc] at h
      refine z_aload_n v1 dX5_writeTo_56 rfl rfl ?_
      refine z_iload_n v2 dX5_writeTo_57 rfl rfl ?_
      refine z_if_eq 66 dX5_writeTo_58 rfl (fun hc => ?_) (fun hc => ?_)
      · rw [if_pos hc] at h
        refine z_bipush 44 dX5_writeTo_66 rfl ?_
        exact zRn.weak h (zLe_of [true, true, false, true, true, true] (And.intro rfl (And.intro rfl (And.intro rfl (And.intro rfl (And.intro rfl (And.intro rfl (trivial))))))))
      · rw [if_neg hc] at h
        refine z_bipush 58 dX5_writeTo_61 rfl ?_
        refine z_goto 68 dX5_writeTo_63 rfl ?_
        exact zRn.weak h (zLe_of [true, true, false, true, true, true] (And.intro rfl (And.intro rfl (And.intro rfl (And.intro rfl (And.intro rfl (And.intro rfl (trivial))))))))
set_option maxRecDepth 100000 in
set_option maxHeartbeats 4000000 in
theorem bX5_writeTo_68 {X : zX} {d kc ks : Nat} {w : zW} {Q : Option Value → zW → Prop} (v0 : Nat) (v1 : Nat) (v3 : Int32) (v4 : Int32) (v5 : Int32) (u0 : Int32) (u1 : Nat)
    (h : zIs w u1 0 ∧ zCallV X d MX0_put [.ref u1, .int u0] w (fun w1 => zIs w1 v1 0 ∧ zCallV X d MX0_putDigit [.ref v1, .int v3] w1 (fun w2 => zIs w2 v1 0 ∧ zCallV X d MX0_put [.ref v1, .int 60] w2 (fun w3 => zIs w3 v1 0 ∧ zCallV X d MX0_putDigit [.ref v1, .int v5] w3 (fun w4 => zRn X d kc ks MX5_writeTo 90 [some (.ref v0), some (.ref v1), some (.int 0), some (.int v3), some (.int v4), some (.int v5)] [] w4 Q))))) :
    zRn X d kc ks MX5_writeTo 68 [some (.ref v0), some (.ref v1), none, some (.int v3), some (.int v4), some (.int v5)] [.int u0, .ref u1] w Q := by
  refine zq_VV (N := MX0_put) (As := [.int u0]) m_X5_127 dX5_writeTo_68 rfl rfl (Nat.le_of_ble_eq_true rfl) h (fun w1 h => ?_)
  refine z_aload_n v1 dX5_writeTo_71 rfl rfl ?_
  refine z_iload_n v3 dX5_writeTo_72 rfl rfl ?_
  refine zq_VV (N := MX0_putDigit) (As := [.int v3]) m_X5_121 dX5_writeTo_73 rfl rfl (Nat.le_of_ble_eq_true rfl) h (fun w2 h => ?_)
  refine z_aload_n v1 dX5_writeTo_76 rfl rfl ?_
  refine z_bipush 60 dX5_writeTo_77 rfl ?_
  refine zq_VV (N := MX0_put) (As := [.int 60]) m_X5_127 dX5_writeTo_79 rfl rfl (Nat.le_of_ble_eq_true rfl) h (fun w3 h => ?_)
  refine z_aload_n v1 dX5_writeTo_82 rfl rfl ?_
  refine z_iload v5 dX5_writeTo_83 rfl ?_
  refine zq_VV (N := MX0_putDigit) (As := [.int v5]) m_X5_121 dX5_writeTo_85 rfl rfl (Nat.le_of_ble_eq_true rfl) h (fun w4 h => ?_)
  refine z_iconst 0 dX5_writeTo_88 rfl ?_
  refine z_istore_n (i := 2) dX5_writeTo_89 rfl (by decide) rfl ?_
  exact h
set_option maxRecDepth 100000 in
set_option maxHeartbeats 4000000 in
theorem bX5_writeTo_90 {X : zX} {d kc ks : Nat} {w : zW} {Q : Option Value → zW → Prop} (v0 : Nat) (v1 : Nat) (v2 : Int32) (v3 : Int32) (v4 : Int32) (v5 : Int32)
    (h : zRn X d kc ks MX5_writeTo 36 [some (.ref v0), some (.ref v1), some (.int v2), some (.int v3), some (.int v4), some (.int (v5 + 1))] [] w Q) :
    zRn X d kc ks MX5_writeTo 90 [some (.ref v0), some (.ref v1), some (.int v2), some (.int v3), some (.int v4), some (.int v5)] [] w Q := by
  refine z_iinc (i := 5) v5 (v5 + 1) dX5_writeTo_90 rfl rfl (by decide) rfl ?_
  refine z_goto 36 dX5_writeTo_93 rfl ?_
  exact h
theorem eX5_writeTo {X : zX} {d kc ks : Nat} {w : zW} {Q : Option Value → zW → Prop} (p0 : Nat) (p1 : Nat) (h : zRn X d kc ks MX5_writeTo 0 [some (.ref p0), some (.ref p1), none, none, none, none] [] w Q) : zEv X d kc ks MX5_writeTo [.ref p0, .ref p1] w Q :=
  zEv.of (by decide) (Nat.le_of_ble_eq_true rfl) (Or.inr (by simp [Value.category])) h
set_option maxRecDepth 100000 in
set_option maxHeartbeats 4000000 in
theorem bX5_writeRows_0 {X : zX} {d kc ks : Nat} {w : zW} {Q : Option Value → zW → Prop} (p0 : Nat) (p1 : Nat)
    (h : zRn X d kc ks MX5_writeRows 2 [some (.ref p0), some (.ref p1), some (.int 0), none] [] w Q) :
    zRn X d kc ks MX5_writeRows 0 [some (.ref p0), some (.ref p1), none, none] [] w Q := by
  refine z_iconst 0 dX5_writeRows_0 rfl ?_
  refine z_istore_n (i := 2) dX5_writeRows_1 rfl (by decide) rfl ?_
  exact h
set_option maxRecDepth 100000 in
set_option maxHeartbeats 4000000 in
theorem bX5_writeRows_2 {X : zX} {d kc ks : Nat} {w : zW} {Q : Option Value → zW → Prop} (v0 : Nat) (v1 : Nat) (v2 : Int32)
    (h : ∃ r1, zfR w v0 5 2 = some r1 ∧ (zIs w r1 8 ∧ zCallI X d MX8_size [.ref r1] w (fun x3 w2 => if x3 ≤ v2 then (Q none w2) else (zIs w2 v1 0 ∧ zCallV X d MX0_putWord [.ref v1, .ref (zTx 3)] w2 (fun w4 => zRn X d kc ks MX5_writeRows 21 [some (.ref v0), some (.ref v1), some (.int v2), some (.int 0)] [] w4 Q))))) :
    zRn X d kc ks MX5_writeRows 2 [some (.ref v0), some (.ref v1), some (.int v2), none] [] w Q := by
  refine z_iload_n v2 dX5_writeRows_2 rfl rfl ?_
  refine z_aload_n v0 dX5_writeRows_3 rfl rfl ?_
  obtain ⟨r1, e, h⟩ := h
  refine zq_fR f_X5_21 dX5_writeRows_4 e ?_
  refine zq_VI (N := MX8_size) (As := []) m_X5_94 dX5_writeRows_7 rfl rfl (Nat.le_of_ble_eq_true rfl) h (fun x3 w2 h => ?_)
  refine z_icmp_ge 60 dX5_writeRows_10 rfl (fun hc => ?_) (fun hc => ?_)
  · rw [if_pos hc] at h
    exact z_vreturn dX5_writeRows_60 rfl h
  · rw [if_neg hc] at h
    refine z_aload_n v1 dX5_writeRows_13 rfl rfl ?_
    refine z_ldcS (q := 3) rfl dX5_writeRows_14 ?_
    refine zq_VV (N := MX0_putWord) (As := [.ref (zTx 3)]) m_X5_115 dX5_writeRows_16 rfl rfl (Nat.le_of_ble_eq_true rfl) h (fun w4 h => ?_)
    refine z_iconst 0 dX5_writeRows_19 rfl ?_
    refine z_istore_n (i := 3) dX5_writeRows_20 rfl (by decide) rfl ?_
    exact h
set_option maxRecDepth 100000 in
set_option maxHeartbeats 4000000 in
theorem bX5_writeRows_21 {X : zX} {d kc ks : Nat} {w : zW} {Q : Option Value → zW → Prop} (v0 : Nat) (v1 : Nat) (v2 : Int32) (v3 : Int32)
    (h : ∃ x1, zfI w v0 5 3 = some x1 ∧ (if x1 ≤ v3 then (zIs w v1 0 ∧ zCallV X d MX0_put [.ref v1, .int 59] w (fun w2 => zRn X d kc ks MX5_writeRows 2 [some (.ref v0), some (.ref v1), some (.int (v2 + 1)), none] [] w2 Q)) else (∃ r3, zfR w v0 5 2 = some r3 ∧ (zIs w r3 8 ∧ zCallI X d MX8_thingAt [.ref r3, .int v2, .int v3] w (fun x5 w4 => zIs w4 v1 0 ∧ zCallV X d MX0_putDigit [.ref v1, .int x5] w4 (fun w6 => zRn X d kc ks MX5_writeRows 21 [some (.ref v0), some (.ref v1), some (.int v2), some (.int (v3 + 1))] [] w6 Q)))))) :
    zRn X d kc ks MX5_writeRows 21 [some (.ref v0), some (.ref v1), some (.int v2), some (.int v3)] [] w Q := by
  refine z_iload_n v3 dX5_writeRows_21 rfl rfl ?_
  refine z_aload_n v0 dX5_writeRows_22 rfl rfl ?_
  obtain ⟨x1, e, h⟩ := h
  refine zq_fI f_X5_25 dX5_writeRows_23 e ?_
  refine z_icmp_ge 48 dX5_writeRows_26 rfl (fun hc => ?_) (fun hc => ?_)
  · rw [if_pos hc] at h
    refine z_aload_n v1 dX5_writeRows_48 rfl rfl ?_
    refine z_bipush 59 dX5_writeRows_49 rfl ?_
    refine zq_VV (N := MX0_put) (As := [.int 59]) m_X5_127 dX5_writeRows_51 rfl rfl (Nat.le_of_ble_eq_true rfl) h (fun w2 h => ?_)
    refine z_iinc (i := 2) v2 (v2 + 1) dX5_writeRows_54 rfl rfl (by decide) rfl ?_
    refine z_goto 2 dX5_writeRows_57 rfl ?_
    exact zRn.weak h (zLe_of [true, true, true, false] (And.intro rfl (And.intro rfl (And.intro rfl (And.intro rfl (trivial))))))
  · rw [if_neg hc] at h
    refine z_aload_n v1 dX5_writeRows_29 rfl rfl ?_
    refine z_aload_n v0 dX5_writeRows_30 rfl rfl ?_
    obtain ⟨r3, e, h⟩ := h
    refine zq_fR f_X5_21 dX5_writeRows_31 e ?_
    refine z_iload_n v2 dX5_writeRows_34 rfl rfl ?_
    refine z_iload_n v3 dX5_writeRows_35 rfl rfl ?_
    refine zq_VI (N := MX8_thingAt) (As := [.int v2, .int v3]) m_X5_91 dX5_writeRows_36 rfl rfl (Nat.le_of_ble_eq_true rfl) h (fun x5 w4 h => ?_)
    refine zq_VV (N := MX0_putDigit) (As := [.int x5]) m_X5_121 dX5_writeRows_39 rfl rfl (Nat.le_of_ble_eq_true rfl) h (fun w6 h => ?_)
    refine z_iinc (i := 3) v3 (v3 + 1) dX5_writeRows_42 rfl rfl (by decide) rfl ?_
    refine z_goto 21 dX5_writeRows_45 rfl ?_
    exact h
theorem eX5_writeRows {X : zX} {d kc ks : Nat} {w : zW} {Q : Option Value → zW → Prop} (p0 : Nat) (p1 : Nat) (h : zRn X d kc ks MX5_writeRows 0 [some (.ref p0), some (.ref p1), none, none] [] w Q) : zEv X d kc ks MX5_writeRows [.ref p0, .ref p1] w Q :=
  zEv.of (by decide) (Nat.le_of_ble_eq_true rfl) (Or.inr (by simp [Value.category])) h
