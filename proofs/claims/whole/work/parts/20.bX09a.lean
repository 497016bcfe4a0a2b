set_option maxRecDepth 100000 in
set_option maxHeartbeats 4000000 in
theorem bX9_init_0 {X : zX} {d kc ks : Nat} {w : zW} {Q : Option Value → zW → Prop} (p0 : Nat)
    (h : 0 < d ∧ ((56 = nI 56 ∧ 56 ≤ 100000 ∧ w.length < zBig ∧ 1 ≤ kc ∧ 56 ≤ ks) ∧ (∃ w2, zsF (w ++ [zI 56 (fun _ => 0)]) p0 9 0 (.ref w.length) = some w2 ∧ ((56 = nI 56 ∧ 56 ≤ 100000 ∧ w2.length < zBig ∧ 1 ≤ (kc - 1) ∧ 56 ≤ (ks - 56)) ∧ (∃ w4, zsF (w2 ++ [zI 56 (fun _ => 0)]) p0 9 1 (.ref w2.length) = some w4 ∧ ((56 = nI 56 ∧ 56 ≤ 100000 ∧ w4.length < zBig ∧ 1 ≤ ((kc - 1) - 1) ∧ 56 ≤ ((ks - 56) - 56)) ∧ (∃ w6, zsF (w4 ++ [zI 56 (fun _ => 0)]) p0 9 2 (.ref w4.length) = some w6 ∧ ((57 = nI 57 ∧ 57 ≤ 100000 ∧ w6.length < zBig ∧ 1 ≤ (((kc - 1) - 1) - 1) ∧ 57 ≤ (((ks - 56) - 56) - 56)) ∧ (∃ w8, zsF (w6 ++ [zI 57 (fun _ => 0)]) p0 9 3 (.ref w6.length) = some w8 ∧ ((32 = nI 32 ∧ 32 ≤ 100000 ∧ w8.length < zBig ∧ 1 ≤ ((((kc - 1) - 1) - 1) - 1) ∧ 32 ≤ ((((ks - 56) - 56) - 56) - 57)) ∧ (∃ w10, zsF (w8 ++ [zI 32 (fun _ => 0)]) p0 9 4 (.ref w8.length) = some w10 ∧ ((448 = nI 448 ∧ 448 ≤ 100000 ∧ w10.length < zBig ∧ 1 ≤ (((((kc - 1) - 1) - 1) - 1) - 1) ∧ 448 ≤ (((((ks - 56) - 56) - 56) - 57) - 32)) ∧ (∃ w12, zsF (w10 ++ [zI 448 (fun _ => 0)]) p0 9 5 (.ref w10.length) = some w12 ∧ (Q none w12)))))))))))))) :
    zRn X d kc ks MX9_init 0 [some (.ref p0)] [] w Q := by
  refine z_aload_n p0 dX9_init_0 rfl rfl ?_
  refine z_objInit g_269 g_127 g_128 dX9_init_1 (Nat.le_of_ble_eq_true rfl) h.1 ?_
  have h := h.2
  refine z_aload_n p0 dX9_init_4 rfl rfl ?_
  refine z_bipush 56 dX9_init_5 rfl ?_
  refine zq_newa (N := 56) g_149 dX9_init_7 h.1 ?_
  have h := h.2
  obtain ⟨w2, e, h⟩ := h
  refine zq_sFf f_X9_9 rfl dX9_init_9 (fun _ => rfl) (fun _ => rfl) e ?_
  refine z_aload_n p0 dX9_init_12 rfl rfl ?_
  refine z_bipush 56 dX9_init_13 rfl ?_
  refine zq_newa (N := 56) g_149 dX9_init_15 h.1 ?_
  have h := h.2
  obtain ⟨w4, e, h⟩ := h
  refine zq_sFf f_X9_15 rfl dX9_init_17 (fun _ => rfl) (fun _ => rfl) e ?_
  refine z_aload_n p0 dX9_init_20 rfl rfl ?_
  refine z_bipush 56 dX9_init_21 rfl ?_
  refine zq_newa (N := 56) g_149 dX9_init_23 h.1 ?_
  have h := h.2
  obtain ⟨w6, e, h⟩ := h
  refine zq_sFf f_X9_18 rfl dX9_init_25 (fun _ => rfl) (fun _ => rfl) e ?_
  refine z_aload_n p0 dX9_init_28 rfl rfl ?_
  refine z_bipush 57 dX9_init_29 rfl ?_
  refine zq_newa (N := 57) g_149 dX9_init_31 h.1 ?_
  have h := h.2
  obtain ⟨w8, e, h⟩ := h
  refine zq_sFf f_X9_21 rfl dX9_init_33 (fun _ => rfl) (fun _ => rfl) e ?_
  refine z_aload_n p0 dX9_init_36 rfl rfl ?_
  refine z_bipush 32 dX9_init_37 rfl ?_
  refine zq_newa (N := 32) g_149 dX9_init_39 h.1 ?_
  have h := h.2
  obtain ⟨w10, e, h⟩ := h
  refine zq_sFf f_X9_24 rfl dX9_init_41 (fun _ => rfl) (fun _ => rfl) e ?_
  refine z_aload_n p0 dX9_init_44 rfl rfl ?_
  refine z_sipush 448 dX9_init_45 rfl ?_
  refine zq_newa (N := 448) g_149 dX9_init_48 h.1 ?_
  have h := h.2
  obtain ⟨w12, e, h⟩ := h
  refine zq_sFf f_X9_27 rfl dX9_init_50 (fun _ => rfl) (fun _ => rfl) e ?_
  exact z_vreturn dX9_init_53 rfl h
theorem eX9_init {X : zX} {d kc ks : Nat} {w : zW} {Q : Option Value → zW → Prop} (p0 : Nat) (h : zRn X d kc ks MX9_init 0 [some (.ref p0)] [] w Q) : zEv X d kc ks MX9_init [.ref p0] w Q :=
  zEv.of (by decide) (Nat.le_of_ble_eq_true rfl) (Or.inr (by simp [Value.category])) h
set_option maxRecDepth 100000 in
set_option maxHeartbeats 4000000 in
theorem bX9_collect_0 {X : zX} {d kc ks : Nat} {w : zW} {Q : Option Value → zW → Prop} (p0 : Nat) (p1 : Nat)
    (h : ∃ w1, zsF w p0 9 6 (.int 0) = some w1 ∧ (zRn X d kc ks MX9_collect 7 [some (.ref p0), some (.ref p1), some (.int 0), none] [] w1 Q)) :
    zRn X d kc ks MX9_collect 0 [some (.ref p0), some (.ref p1), none, none] [] w Q := by
  refine z_aload_n p0 dX9_collect_0 rfl rfl ?_
  refine z_iconst 0 dX9_collect_1 rfl ?_
  obtain ⟨w1, e, h⟩ := h
  refine zq_sF f_X9_30 dX9_collect_2 (fun _ => rfl) (fun _ => rfl) e ?_
  refine z_iconst 0 dX9_collect_5 rfl ?_
  refine z_istore_n (i := 2) dX9_collect_6 rfl (by decide) rfl ?_
  exact h
set_option maxRecDepth 100000 in
set_option maxHeartbeats 4000000 in
theorem bX9_collect_7 {X : zX} {d kc ks : Nat} {w : zW} {Q : Option Value → zW → Prop} (v0 : Nat) (v1 : Nat) (v2 : Int32)
    (h : zIs w v1 5 ∧ zCallI X d MX5_size [.ref v1] w (fun x2 w1 => if x2 ≤ v2 then (Q none w1) else (zRn X d kc ks MX9_collect 17 [some (.ref v0), some (.ref v1), some (.int v2), some (.int 0)] [] w1 Q))) :
    zRn X d kc ks MX9_collect 7 [some (.ref v0), some (.ref v1), some (.int v2), none] [] w Q := by
  refine z_iload_n v2 dX9_collect_7 rfl rfl ?_
  refine z_aload_n v1 dX9_collect_8 rfl rfl ?_
  refine zq_VI (N := MX5_size) (As := []) m_X9_34 dX9_collect_9 rfl rfl (Nat.le_of_ble_eq_true rfl) h (fun x2 w1 h => ?_)
  refine z_icmp_ge 85 dX9_collect_12 rfl (fun hc => ?_) (fun hc => ?_)
  · rw [if_pos hc] at h
    exact z_vreturn dX9_collect_85 rfl h
  · rw [if_neg hc] at h
    refine z_iconst 0 dX9_collect_15 rfl ?_
    refine z_istore_n (i := 3) dX9_collect_16 rfl (by decide) rfl ?_
    exact h
set_option maxRecDepth 100000 in
set_option maxHeartbeats 4000000 in
theorem bX9_collect_17 {X : zX} {d kc ks : Nat} {w : zW} {Q : Option Value → zW → Prop} (v0 : Nat) (v1 : Nat) (v2 : Int32) (v3 : Int32)
    (h : zIs w v1 5 ∧ zCallI X d MX5_size [.ref v1] w (fun x2 w1 => if x2 ≤ v3 then (zRn X d kc ks MX9_collect 7 [some (.ref v0), some (.ref v1), some (.int (v2 + 1)), none] [] w1 Q) else (∃ x3, zfI w1 v0 9 6 = some x3 ∧ (if 56 ≤ x3 then (zRn X d kc ks MX9_collect 73 [some (.ref v0), some (.ref v1), some (.int v2), some (.int v3)] [] w1 Q) else (zCallI X d MX9_isCritical [.ref v1, .int v2, .int v3] w1 (fun x5 w4 => if x5 = 0 then (zRn X d kc ks MX9_collect 73 [some (.ref v0), some (.ref v1), some (.int v2), some (.int v3)] [] w4 Q) else (∃ r6, zfR w4 v0 9 0 = some r6 ∧ (∃ x7, zfI w4 v0 9 6 = some x7 ∧ (∃ w8, zsI w4 r6 x7 v2 = some w8 ∧ (∃ r9, zfR w8 v0 9 1 = some r9 ∧ (∃ x10, zfI w8 v0 9 6 = some x10 ∧ (∃ w11, zsI w8 r9 x10 v3 = some w11 ∧ (∃ x12, zfI w11 v0 9 6 = some x12 ∧ (∃ w13, zsF w11 v0 9 6 (.int (x12 + 1)) = some w13 ∧ (zRn X d kc ks MX9_collect 73 [some (.ref v0), some (.ref v1), some (.int v2), some (.int v3)] [] w13 Q))))))))))))))) :
    zRn X d kc ks MX9_collect 17 [some (.ref v0), some (.ref v1), some (.int v2), some (.int v3)] [] w Q := by
  refine z_iload_n v3 dX9_collect_17 rfl rfl ?_
  refine z_aload_n v1 dX9_collect_18 rfl rfl ?_
  refine zq_VI (N := MX5_size) (As := []) m_X9_34 dX9_collect_19 rfl rfl (Nat.le_of_ble_eq_true rfl) h (fun x2 w1 h => ?_)
  refine z_icmp_ge 79 dX9_collect_22 rfl (fun hc => ?_) (fun hc => ?_)
  · rw [if_pos hc] at h
    refine z_iinc (i := 2) v2 (v2 + 1) dX9_collect_79 rfl rfl (by decide) rfl ?_
    refine z_goto 7 dX9_collect_82 rfl ?_
    exact zRn.weak h (zLe_of [true, true, true, false] (And.intro rfl (And.intro rfl (And.intro rfl (And.intro rfl (trivial))))))
  · rw [if_neg hc] at h
    refine z_aload_n v0 dX9_collect_25 rfl rfl ?_
    obtain ⟨x3, e, h⟩ := h
    refine zq_fI f_X9_30 dX9_collect_26 e ?_
    refine z_bipush 56 dX9_collect_29 rfl ?_
    refine z_icmp_ge 73 dX9_collect_31 rfl (fun hc => ?_) (fun hc => ?_)
    · rw [if_pos hc] at h
      exact h
    · rw [if_neg hc] at h
      refine z_aload_n v1 dX9_collect_34 rfl rfl ?_
      refine z_iload_n v2 dX9_collect_35 rfl rfl ?_
      refine z_iload_n v3 dX9_collect_36 rfl rfl ?_
      refine zq_SI (N := MX9_isCritical) (As := [.ref v1, .int v2, .int v3]) m_X9_39 dX9_collect_37 rfl rfl (Nat.le_of_ble_eq_true rfl) h (fun x5 w4 h => ?_)
      refine z_if_eq 73 dX9_collect_40 rfl (fun hc => ?_) (fun hc => ?_)
      · rw [if_pos hc] at h
        exact h
      · rw [if_neg hc] at h
        refine z_aload_n v0 dX9_collect_43 rfl rfl ?_
        obtain ⟨r6, e, h⟩ := h
        refine zq_fR f_X9_9 dX9_collect_44 e ?_
        refine z_aload_n v0 dX9_collect_47 rfl rfl ?_
        obtain ⟨x7, e, h⟩ := h
        refine zq_fI f_X9_30 dX9_collect_48 e ?_
        refine z_iload_n v2 dX9_collect_51 rfl rfl ?_
        obtain ⟨w8, e, h⟩ := h
        refine zq_sI dX9_collect_52 e ?_
        refine z_aload_n v0 dX9_collect_53 rfl rfl ?_
        obtain ⟨r9, e, h⟩ := h
        refine zq_fR f_X9_15 dX9_collect_54 e ?_
        refine z_aload_n v0 dX9_collect_57 rfl rfl ?_
        obtain ⟨x10, e, h⟩ := h
        refine zq_fI f_X9_30 dX9_collect_58 e ?_
        refine z_iload_n v3 dX9_collect_61 rfl rfl ?_
        obtain ⟨w11, e, h⟩ := h
        refine zq_sI dX9_collect_62 e ?_
        refine z_aload_n v0 dX9_collect_63 rfl rfl ?_
        refine z_dup dX9_collect_64 rfl ?_
        obtain ⟨x12, e, h⟩ := h
        refine zq_fI f_X9_30 dX9_collect_65 e ?_
        refine z_iconst 1 dX9_collect_68 rfl ?_
        refine z_iadd dX9_collect_69 ?_
        obtain ⟨w13, e, h⟩ := h
        refine zq_sF f_X9_30 dX9_collect_70 (fun _ => rfl) (fun _ => rfl) e ?_
        exact h
set_option maxRecDepth 100000 in
set_option maxHeartbeats 4000000 in
theorem bX9_collect_73 {X : zX} {d kc ks : Nat} {w : zW} {Q : Option Value → zW → Prop} (v0 : Nat) (v1 : Nat) (v2 : Int32) (v3 : Int32)
    (h : zRn X d kc ks MX9_collect 17 [some (.ref v0), some (.ref v1), some (.int v2), some (.int (v3 + 1))] [] w Q) :
    zRn X d kc ks MX9_collect 73 [some (.ref v0), some (.ref v1), some (.int v2), some (.int v3)] [] w Q := by
  refine z_iinc (i := 3) v3 (v3 + 1) dX9_collect_73 rfl rfl (by decide) rfl ?_
  refine z_goto 17 dX9_collect_76 rfl ?_
  exact h
theorem eX9_collect {X : zX} {d kc ks : Nat} {w : zW} {Q : Option Value → zW → Prop} (p0 : Nat) (p1 : Nat) (h : zRn X d kc ks MX9_collect 0 [some (.ref p0), some (.ref p1), none, none] [] w Q) : zEv X d kc ks MX9_collect [.ref p0, .ref p1] w Q :=
  zEv.of (by decide) (Nat.le_of_ble_eq_true rfl) (Or.inr (by simp [Value.category])) h
set_option maxRecDepth 100000 in
set_option maxHeartbeats 4000000 in
theorem bX9_isCritical_0 {X : zX} {d kc ks : Nat} {w : zW} {Q : Option Value → zW → Prop} (p0 : Nat) (a1 : Int32) (a2 : Int32)
    (h : zIs w p0 5 ∧ zCallI X d MX5_freeOf [.ref p0, .int a1] w (fun x2 w1 => if ((x2 >>> (a2 &&& 31)) &&& 1) = 1 then (zIs w1 p0 5 ∧ zCallI X d MX5_belowOf [.ref p0, .int a1] w1 (fun x4 w3 => zIs w3 p0 5 ∧ zCallI X d MX5_belowOf [.ref p0, .int a2] w3 (fun x6 w5 => if (x4 &&& (x6 ^^^ (-1))) = 0 then (zIs w5 p0 5 ∧ zCallI X d MX5_aboveOf [.ref p0, .int a2] w5 (fun x8 w7 => zIs w7 p0 5 ∧ zCallI X d MX5_aboveOf [.ref p0, .int a1] w7 (fun x10 w9 => if (x8 &&& (x10 ^^^ (-1))) = 0 then (Q (some (.int 1)) w9) else (Q (some (.int 0)) w9)))) else (Q (some (.int 0)) w5)))) else (Q (some (.int 0)) w1))) :
    zRn X d kc ks MX9_isCritical 0 [some (.ref p0), some (.int a1), some (.int a2)] [] w Q := by
  refine z_aload_n p0 dX9_isCritical_0 rfl rfl ?_
  refine z_iload_n a1 dX9_isCritical_1 rfl rfl ?_
  refine zq_VI (N := MX5_freeOf) (As := [.int a1]) m_X9_43 dX9_isCritical_2 rfl rfl (Nat.le_of_ble_eq_true rfl) h (fun x2 w1 h => ?_)
  refine z_iload_n a2 dX9_isCritical_5 rfl rfl ?_
  refine z_ishr dX9_isCritical_6 ?_
  refine z_iconst 1 dX9_isCritical_7 rfl ?_
  refine z_iand dX9_isCritical_8 ?_
  refine z_iconst 1 dX9_isCritical_9 rfl ?_
  refine z_icmp_ne 49 dX9_isCritical_10 rfl (fun hc => ?_) (fun hc => ?_)
  · rw [if_neg hc] at h
    refine z_iconst 0 dX9_isCritical_49 rfl ?_
    exact z_ireturn .boolean dX9_isCritical_50 rfl rfl h
  · rw [if_pos hc] at h
    refine z_aload_n p0 dX9_isCritical_13 rfl rfl ?_
    refine z_iload_n a1 dX9_isCritical_14 rfl rfl ?_
    refine zq_VI (N := MX5_belowOf) (As := [.int a1]) m_X9_47 dX9_isCritical_15 rfl rfl (Nat.le_of_ble_eq_true rfl) h (fun x4 w3 h => ?_)
    refine z_aload_n p0 dX9_isCritical_18 rfl rfl ?_
    refine z_iload_n a2 dX9_isCritical_19 rfl rfl ?_
    refine zq_VI (N := MX5_belowOf) (As := [.int a2]) m_X9_47 dX9_isCritical_20 rfl rfl (Nat.le_of_ble_eq_true rfl) h (fun x6 w5 h => ?_)
    refine z_iconst (-1) dX9_isCritical_23 rfl ?_
    refine z_ixor dX9_isCritical_24 ?_
    refine z_iand dX9_isCritical_25 ?_
    refine z_if_ne 49 dX9_isCritical_26 rfl (fun hc => ?_) (fun hc => ?_)
    · rw [if_neg hc] at h
      refine z_iconst 0 dX9_isCritical_49 rfl ?_
      exact z_ireturn .boolean dX9_isCritical_50 rfl rfl h
    · rw [if_pos hc] at h
      refine z_aload_n p0 dX9_isCritical_29 rfl rfl ?_
      refine z_iload_n a2 dX9_isCritical_30 rfl rfl ?_
      refine zq_VI (N := MX5_aboveOf) (As := [.int a2]) m_X9_50 dX9_isCritical_31 rfl rfl (Nat.le_of_ble_eq_true rfl) h (fun x8 w7 h => ?_)
      refine z_aload_n p0 dX9_isCritical_34 rfl rfl ?_
      refine z_iload_n a1 dX9_isCritical_35 rfl rfl ?_
      refine zq_VI (N := MX5_aboveOf) (As := [.int a1]) m_X9_50 dX9_isCritical_36 rfl rfl (Nat.le_of_ble_eq_true rfl) h (fun x10 w9 h => ?_)
      refine z_iconst (-1) dX9_isCritical_39 rfl ?_
      refine z_ixor dX9_isCritical_40 ?_
      refine z_iand dX9_isCritical_41 ?_
      refine z_if_ne 49 dX9_isCritical_42 rfl (fun hc => ?_) (fun hc => ?_)
      · rw [if_neg hc] at h
        refine z_iconst 0 dX9_isCritical_49 rfl ?_
        exact z_ireturn .boolean dX9_isCritical_50 rfl rfl h
      · rw [if_pos hc] at h
        refine z_iconst 1 dX9_isCritical_45 rfl ?_
        refine z_goto 50 dX9_isCritical_46 rfl ?_
        exact z_ireturn .boolean dX9_isCritical_50 rfl rfl h
theorem eX9_isCritical {X : zX} {d kc ks : Nat} {w : zW} {Q : Option Value → zW → Prop} (p0 : Nat) (a1 : Int32) (a2 : Int32) (h : zRn X d kc ks MX9_isCritical 0 [some (.ref p0), some (.int a1), some (.int a2)] [] w Q) : zEv X d kc ks MX9_isCritical [.ref p0, .int a1, .int a2] w Q :=
  zEv.of (by decide) (Nat.le_of_ble_eq_true rfl) (Or.inr (by simp [Value.category])) h
set_option maxRecDepth 100000 in
set_option maxHeartbeats 4000000 in
theorem bX9_size_0 {X : zX} {d kc ks : Nat} {w : zW} {Q : Option Value → zW → Prop} (p0 : Nat)
    (h : ∃ x1, zfI w p0 9 6 = some x1 ∧ (Q (some (.int x1)) w)) :
    zRn X d kc ks MX9_size 0 [some (.ref p0)] [] w Q := by
  refine z_aload_n p0 dX9_size_0 rfl rfl ?_
  obtain ⟨x1, e, h⟩ := h
  refine zq_fI f_X9_30 dX9_size_1 e ?_
  exact z_ireturn .int dX9_size_4 rfl rfl h
theorem eX9_size {X : zX} {d kc ks : Nat} {w : zW} {Q : Option Value → zW → Prop} (p0 : Nat) (h : zRn X d kc ks MX9_size 0 [some (.ref p0)] [] w Q) : zEv X d kc ks MX9_size [.ref p0] w Q :=
  zEv.of (by decide) (Nat.le_of_ble_eq_true rfl) (Or.inr (by simp [Value.category])) h
set_option maxRecDepth 100000 in
set_option maxHeartbeats 4000000 in
theorem bX9_twoAt_0 {X : zX} {d kc ks : Nat} {w : zW} {Q : Option Value → zW → Prop} (p0 : Nat) (a1 : Int32)
    (h : if a1 < 0 then (Q (some (.int (-1))) w) else (∃ x1, zfI w p0 9 6 = some x1 ∧ (if x1 ≤ a1 then (Q (some (.int (-1))) w) else (∃ r2, zfR w p0 9 0 = some r2 ∧ (∃ x3, zaI w r2 a1 = some x3 ∧ (∃ r4, zfR w p0 9 1 = some r4 ∧ (∃ x5, zaI w r4 a1 = some x5 ∧ (Q (some (.int (((10 : Int32) * x3) + x5))) w)))))))) :
    zRn X d kc ks MX9_twoAt 0 [some (.ref p0), some (.int a1)] [] w Q := by
  refine z_iload_n a1 dX9_twoAt_0 rfl rfl ?_
  refine z_if_lt 31 dX9_twoAt_1 rfl (fun hc => ?_) (fun hc => ?_)
  · rw [if_pos hc] at h
    refine z_iconst (-1) dX9_twoAt_31 rfl ?_
    exact z_ireturn .int dX9_twoAt_32 rfl rfl h
  · rw [if_neg hc] at h
    refine z_iload_n a1 dX9_twoAt_4 rfl rfl ?_
    refine z_aload_n p0 dX9_twoAt_5 rfl rfl ?_
    obtain ⟨x1, e, h⟩ := h
    refine zq_fI f_X9_30 dX9_twoAt_6 e ?_
    refine z_icmp_ge 31 dX9_twoAt_9 rfl (fun hc => ?_) (fun hc => ?_)
    · rw [if_pos hc] at h
      refine z_iconst (-1) dX9_twoAt_31 rfl ?_
      exact z_ireturn .int dX9_twoAt_32 rfl rfl h
    · rw [if_neg hc] at h
      refine z_bipush 10 dX9_twoAt_12 rfl ?_
      refine z_aload_n p0 dX9_twoAt_14 rfl rfl ?_
      obtain ⟨r2, e, h⟩ := h
      refine zq_fR f_X9_9 dX9_twoAt_15 e ?_
      refine z_iload_n a1 dX9_twoAt_18 rfl rfl ?_
      obtain ⟨x3, e, h⟩ := h
      refine zq_aI dX9_twoAt_19 e ?_
      refine z_imul dX9_twoAt_20 ?_
      refine z_aload_n p0 dX9_twoAt_21 rfl rfl ?_
      obtain ⟨r4, e, h⟩ := h
      refine zq_fR f_X9_15 dX9_twoAt_22 e ?_
      refine z_iload_n a1 dX9_twoAt_25 rfl rfl ?_
      obtain ⟨x5, e, h⟩ := h
      refine zq_aI dX9_twoAt_26 e ?_
      refine z_iadd dX9_twoAt_27 ?_
      refine z_goto 32 dX9_twoAt_28 rfl ?_
      exact z_ireturn .int dX9_twoAt_32 rfl rfl h
theorem eX9_twoAt {X : zX} {d kc ks : Nat} {w : zW} {Q : Option Value → zW → Prop} (p0 : Nat) (a1 : Int32) (h : zRn X d kc ks MX9_twoAt 0 [some (.ref p0), some (.int a1)] [] w Q) : zEv X d kc ks MX9_twoAt [.ref p0, .int a1] w Q :=
  zEv.of (by decide) (Nat.le_of_ble_eq_true rfl) (Or.inr (by simp [Value.category])) h
set_option maxRecDepth 100000 in
set_option maxHeartbeats 4000000 in
theorem bX9_turnedBy_0 {X : zX} {d kc ks : Nat} {w : zW} {Q : Option Value → zW → Prop} (p0 : Nat) (p1 : Nat) (a2 : Int32)
    (h : zRn X d kc ks MX9_turnedBy 5 [some (.ref p0), some (.ref p1), some (.int a2), some (.int 0), some (.int 0)] [] w Q) :
    zRn X d kc ks MX9_turnedBy 0 [some (.ref p0), some (.ref p1), some (.int a2), none, none] [] w Q := by
  refine z_iconst 0 dX9_turnedBy_0 rfl ?_
  refine z_istore_n (i := 3) dX9_turnedBy_1 rfl (by decide) rfl ?_
  refine z_iconst 0 dX9_turnedBy_2 rfl ?_
  refine z_istore (i := 4) dX9_turnedBy_3 (by decide) rfl ?_
  exact h
set_option maxRecDepth 100000 in
set_option maxHeartbeats 4000000 in
theorem bX9_turnedBy_5 {X : zX} {d kc ks : Nat} {w : zW} {Q : Option Value → zW → Prop} (v0 : Nat) (v1 : Nat) (v2 : Int32) (v3 : Int32) (v4 : Int32)
    (h : ∃ x1, zfI w v0 9 6 = some x1 ∧ (if x1 ≤ v4 then (Q (some (.int v3)) w) else (zIs w v1 5 ∧ zCallR X d MX5_rows [.ref v1] w (fun r3 w2 => ∃ r4, zfR w2 v0 9 1 = some r4 ∧ (∃ x5, zaI w2 r4 v4 = some x5 ∧ (∃ r6, zfR w2 v0 9 0 = some r6 ∧ (∃ x7, zaI w2 r6 v4 = some x7 ∧ (zIs w2 v1 5 ∧ zCallI X d MX5_size [.ref v1] w2 (fun x9 w8 => zIs w8 r3 8 ∧ zCallI X d MX8_comesAhead [.ref r3, .int v2, .int x5, .int x7, .int x9] w8 (fun x11 w10 => if x11 = 0 then (zRn X d kc ks MX9_turnedBy 46 [some (.ref v0), some (.ref v1), some (.int v2), some (.int v3), some (.int v4)] [] w10 Q) else (zRn X d kc ks MX9_turnedBy 46 [some (.ref v0), some (.ref v1), some (.int v2), some (.int (v3 + 1)), some (.int v4)] [] w10 Q))))))))))) :
    zRn X d kc ks MX9_turnedBy 5 [some (.ref v0), some (.ref v1), some (.int v2), some (.int v3), some (.int v4)] [] w Q := by
  refine z_iload v4 dX9_turnedBy_5 rfl ?_
  refine z_aload_n v0 dX9_turnedBy_7 rfl rfl ?_
  obtain ⟨x1, e, h⟩ := h
  refine zq_fI f_X9_30 dX9_turnedBy_8 e ?_
  refine z_icmp_ge 52 dX9_turnedBy_11 rfl (fun hc => ?_) (fun hc => ?_)
  · rw [if_pos hc] at h
    refine z_iload_n v3 dX9_turnedBy_52 rfl rfl ?_
    exact z_ireturn .int dX9_turnedBy_53 rfl rfl h
  · rw [if_neg hc] at h
    refine z_aload_n v1 dX9_turnedBy_14 rfl rfl ?_
    refine zq_VR (N := MX5_rows) (As := []) m_X9_53 dX9_turnedBy_15 rfl rfl (Nat.le_of_ble_eq_true rfl) h (fun r3 w2 h => ?_)
    refine z_iload_n v2 dX9_turnedBy_18 rfl rfl ?_
    refine z_aload_n v0 dX9_turnedBy_19 rfl rfl ?_
    obtain ⟨r4, e, h⟩ := h
    refine zq_fR f_X9_15 dX9_turnedBy_20 e ?_
    refine z_iload v4 dX9_turnedBy_23 rfl ?_
    obtain ⟨x5, e, h⟩ := h
    refine zq_aI dX9_turnedBy_25 e ?_
    refine z_aload_n v0 dX9_turnedBy_26 rfl rfl ?_
    obtain ⟨r6, e, h⟩ := h
    refine zq_fR f_X9_9 dX9_turnedBy_27 e ?_
    refine z_iload v4 dX9_turnedBy_30 rfl ?_
    obtain ⟨x7, e, h⟩ := h
    refine zq_aI dX9_turnedBy_32 e ?_
    refine z_aload_n v1 dX9_turnedBy_33 rfl rfl ?_
    refine zq_VI (N := MX5_size) (As := []) m_X9_34 dX9_turnedBy_34 rfl rfl (Nat.le_of_ble_eq_true rfl) h (fun x9 w8 h => ?_)
    refine zq_VI (N := MX8_comesAhead) (As := [.int v2, .int x5, .int x7, .int x9]) m_X9_57 dX9_turnedBy_37 rfl rfl (Nat.le_of_ble_eq_true rfl) h (fun x11 w10 h => ?_)
    refine z_if_eq 46 dX9_turnedBy_40 rfl (fun hc => ?_) (fun hc => ?_)
    · rw [if_pos hc] at h
      exact h
    · rw [if_neg hc] at h
      refine z_iinc (i := 3) v3 (v3 + 1) dX9_turnedBy_43 rfl rfl (by decide) rfl ?_
      exact h
set_option maxRecDepth 100000 in
set_option maxHeartbeats 4000000 in
theorem bX9_turnedBy_46 {X : zX} {d kc ks : Nat} {w : zW} {Q : Option Value → zW → Prop} (v0 : Nat) (v1 : Nat) (v2 : Int32) (v3 : Int32) (v4 : Int32)
    (h : zRn X d kc ks MX9_turnedBy 5 [some (.ref v0), some (.ref v1), some (.int v2), some (.int v3), some (.int (v4 + 1))] [] w Q) :
    zRn X d kc ks MX9_turnedBy 46 [some (.ref v0), some (.ref v1), some (.int v2), some (.int v3), some (.int v4)] [] w Q := by
  refine z_iinc (i := 4) v4 (v4 + 1) dX9_turnedBy_46 rfl rfl (by decide) rfl ?_
  refine z_goto 5 dX9_turnedBy_49 rfl ?_
  exact h
theorem eX9_turnedBy {X : zX} {d kc ks : Nat} {w : zW} {Q : Option Value → zW → Prop} (p0 : Nat) (p1 : Nat) (a2 : Int32) (h : zRn X d kc ks MX9_turnedBy 0 [some (.ref p0), some (.ref p1), some (.int a2), none, none] [] w Q) : zEv X d kc ks MX9_turnedBy [.ref p0, .ref p1, .int a2] w Q :=
  zEv.of (by decide) (Nat.le_of_ble_eq_true rfl) (Or.inr (by simp [Value.category])) h
set_option maxRecDepth 100000 in
set_option maxHeartbeats 4000000 in
theorem bX9_run_0 {X : zX} {d kc ks : Nat} {w : zW} {Q : Option Value → zW → Prop} (p0 : Nat) (p1 : Nat) (a2 : Int32) (a3 : Int32)
    (h : zIs w p0 9 ∧ zCallV X d MX9_collect [.ref p0, .ref p1] w (fun w1 => zIs w1 p0 9 ∧ zCallV X d MX9_startPlaces [.ref p0, .ref p1] w1 (fun w2 => ∃ r3, zfR w2 p0 9 3 = some r3 ∧ (∃ w4, zsI w2 r3 0 0 = some w4 ∧ (∃ x5, zfI w4 p0 9 6 = some x5 ∧ (if x5 ≤ 0 then (zRn X d kc ks MX9_run 37 [some (.ref p0), some (.ref p1), some (.int a2), some (.int a3), some (.int 0), some (.int 0), none, none] [] w4 Q) else (∃ r6, zfR w4 p0 9 2 = some r6 ∧ (∃ w7, zsI w4 r6 0 (-1) = some w7 ∧ (zRn X d kc ks MX9_run 37 [some (.ref p0), some (.ref p1), some (.int a2), some (.int a3), some (.int 0), some (.int 0), none, none] [] w7 Q))))))))) :
    zRn X d kc ks MX9_run 0 [some (.ref p0), some (.ref p1), some (.int a2), some (.int a3), none, none, none, none] [] w Q := by
  refine z_aload_n p0 dX9_run_0 rfl rfl ?_
  refine z_aload_n p1 dX9_run_1 rfl rfl ?_
  refine zq_VV (N := MX9_collect) (As := [.ref p1]) m_X9_63 dX9_run_2 rfl rfl (Nat.le_of_ble_eq_true rfl) h (fun w1 h => ?_)
  refine z_aload_n p0 dX9_run_5 rfl rfl ?_
  refine z_aload_n p1 dX9_run_6 rfl rfl ?_
  refine zq_VV (N := MX9_startPlaces) (As := [.ref p1]) m_X9_67 dX9_run_7 rfl rfl (Nat.le_of_ble_eq_true rfl) h (fun w2 h => ?_)
  refine z_iconst 0 dX9_run_10 rfl ?_
  refine z_istore (i := 4) dX9_run_11 (by decide) rfl ?_
  refine z_iconst 0 dX9_run_13 rfl ?_
  refine z_istore (i := 5) dX9_run_14 (by decide) rfl ?_
  refine z_aload_n p0 dX9_run_16 rfl rfl ?_
  obtain ⟨r3, e, h⟩ := h
  refine zq_fR f_X9_21 dX9_run_17 e ?_
  refine z_iconst 0 dX9_run_20 rfl ?_
  refine z_iconst 0 dX9_run_21 rfl ?_
  obtain ⟨w4, e, h⟩ := h
  refine zq_sI dX9_run_22 e ?_
  refine z_aload_n p0 dX9_run_23 rfl rfl ?_
  obtain ⟨x5, e, h⟩ := h
  refine zq_fI f_X9_30 dX9_run_24 e ?_
  refine z_if_le 37 dX9_run_27 rfl (fun hc => ?_) (fun hc => ?_)
  · rw [if_pos hc] at h
    exact h
  · rw [if_neg hc] at h
    refine z_aload_n p0 dX9_run_30 rfl rfl ?_
    obtain ⟨r6, e, h⟩ := h
    refine zq_fR f_X9_18 dX9_run_31 e ?_
    refine z_iconst 0 dX9_run_34 rfl ?_
    refine z_iconst (-1) dX9_run_35 rfl ?_
    obtain ⟨w7, e, h⟩ := h
    refine zq_sI dX9_run_36 e ?_
    exact h
set_option maxRecDepth 100000 in
set_option maxHeartbeats 4000000 in
theorem bX9_run_37 {X : zX} {d kc ks : Nat} {w : zW} {Q : Option Value → zW → Prop} (v0 : Nat) (v1 : Nat) (v2 : Int32) (v3 : Int32) (v4 : Int32) (v5 : Int32)
    (h : zRn X d kc ks MX9_run 40 [some (.ref v0), some (.ref v1), some (.int v2), some (.int v3), some (.int v4), some (.int v5), some (.int 0), none] [] w Q) :
    zRn X d kc ks MX9_run 37 [some (.ref v0), some (.ref v1), some (.int v2), some (.int v3), some (.int v4), some (.int v5), none, none] [] w Q := by
  refine z_iconst 0 dX9_run_37 rfl ?_
  refine z_istore (i := 6) dX9_run_38 (by decide) rfl ?_
  exact h
set_option maxRecDepth 100000 in
set_option maxHeartbeats 4000000 in
theorem bX9_run_40 {X : zX} {d kc ks : Nat} {w : zW} {Q : Option Value → zW → Prop} (v0 : Nat) (v1 : Nat) (v2 : Int32) (v3 : Int32) (v4 : Int32) (v5 : Int32) (v6 : Int32)
    (h : if (((2 : Int32) * v3) + 1) < v6 then (Q (some (.int v5)) w) else (∃ x1, zfI w v0 9 6 = some x1 ∧ (if x1 ≤ v4 then (Q (some (.int v5)) w) else (∃ r2, zfR w v0 9 2 = some r2 ∧ (∃ x3, zaI w r2 v4 = some x3 ∧ (∃ r4, zfR w v0 9 3 = some r4 ∧ (∃ x5, zaI w r4 v4 = some x5 ∧ (if x5 < (x3 + 1) then (zRn X d kc ks MX9_run 88 [some (.ref v0), some (.ref v1), some (.int v2), some (.int v3), some (.int v4), some (.int v5), some (.int v6), none] [] w Q) else (if (x3 + 1) < v2 then (if v5 = v3 then (Q (some (.int (-3))) w) else (∃ r6, zfR w v0 9 2 = some r6 ∧ (∃ w7, zsI w r6 v4 (x3 + 1) = some w7 ∧ (zIs w7 v0 9 ∧ zCallI X d MX9_canStand [.ref v0, .int v4] w7 (fun x9 w8 => if x9 = 0 then (zRn X d kc ks MX9_run 164 [some (.ref v0), some (.ref v1), some (.int v2), some (.int v3), some (.int v4), some (.int (v5 + 1)), some (.int v6), none] [] w8 Q) else (zIs w8 v0 9 ∧ zCallV X d MX9_putIn [.ref v0, .int v4, .ref v1] w8 (fun w10 => ∃ x11, zfI w10 v0 9 6 = some x11 ∧ (if x11 ≤ (v4 + 1) then (zRn X d kc ks MX9_run 164 [some (.ref v0), some (.ref v1), some (.int v2), some (.int v3), some (.int (v4 + 1)), some (.int (v5 + 1)), some (.int v6), none] [] w10 Q) else (∃ r12, zfR w10 v0 9 2 = some r12 ∧ (∃ w13, zsI w10 r12 (v4 + 1) (-1) = some w13 ∧ (zRn X d kc ks MX9_run 164 [some (.ref v0), some (.ref v1), some (.int v2), some (.int v3), some (.int (v4 + 1)), some (.int (v5 + 1)), some (.int v6), none] [] w13 Q))))))))))) else (zRn X d kc ks MX9_run 88 [some (.ref v0), some (.ref v1), some (.int v2), some (.int v3), some (.int v4), some (.int v5), some (.int v6), none] [] w Q)))))))))) :
    zRn X d kc ks MX9_run 40 [some (.ref v0), some (.ref v1), some (.int v2), some (.int v3), some (.int v4), some (.int v5), some (.int v6), none] [] w Q := by
  refine z_iload v6 dX9_run_40 rfl ?_
  refine z_iconst 2 dX9_run_42 rfl ?_
  refine z_iload_n v3 dX9_run_43 rfl rfl ?_
  refine z_imul dX9_run_44 ?_
  refine z_iconst 1 dX9_run_45 rfl ?_
  refine z_iadd dX9_run_46 ?_
  refine z_icmp_gt 170 dX9_run_47 rfl (fun hc => ?_) (fun hc => ?_)
  · rw [if_pos hc] at h
    refine z_iload v5 dX9_run_170 rfl ?_
    exact z_ireturn .int dX9_run_172 rfl rfl h
  · rw [if_neg hc] at h
    refine z_iload v4 dX9_run_50 rfl ?_
    refine z_aload_n v0 dX9_run_52 rfl rfl ?_
    obtain ⟨x1, e, h⟩ := h
    refine zq_fI f_X9_30 dX9_run_53 e ?_
    refine z_icmp_ge 170 dX9_run_56 rfl (fun hc => ?_) (fun hc => ?_)
    · rw [if_pos hc] at h
      refine z_iload v5 dX9_run_170 rfl ?_
      exact z_ireturn .int dX9_run_172 rfl rfl h
    · rw [if_neg hc] at h
      refine z_aload_n v0 dX9_run_59 rfl rfl ?_
      obtain ⟨r2, e, h⟩ := h
      refine zq_fR f_X9_18 dX9_run_60 e ?_
      refine z_iload v4 dX9_run_63 rfl ?_
      obtain ⟨x3, e, h⟩ := h
      refine zq_aI dX9_run_65 e ?_
      refine z_iconst 1 dX9_run_66 rfl ?_
      refine z_iadd dX9_run_67 ?_
      refine z_istore (i := 7) dX9_run_68 (by decide) rfl ?_
      refine z_iload (x3 + 1) dX9_run_70 rfl ?_
      refine z_aload_n v0 dX9_run_72 rfl rfl ?_
      obtain ⟨r4, e, h⟩ := h
      refine zq_fR f_X9_21 dX9_run_73 e ?_
      refine z_iload v4 dX9_run_76 rfl ?_
      obtain ⟨x5, e, h⟩ := h
      refine zq_aI dX9_run_78 e ?_
      refine z_icmp_gt 88 dX9_run_79 rfl (fun hc => ?_) (fun hc => ?_)
      · rw [if_pos hc] at h
        exact zRn.weak h (zLe_of [true, true, true, true, true, true, true, false] (And.intro rfl (And.intro rfl (And.intro rfl (And.intro rfl (And.intro rfl (And.intro rfl (And.intro rfl (And.intro rfl (trivial))))))))))
      · rw [if_neg hc] at h
        refine z_iload (x3 + 1) dX9_run_82 rfl ?_
        refine z_iload_n v2 dX9_run_84 rfl rfl ?_
        refine z_icmp_lt 107 dX9_run_85 rfl (fun hc => ?_) (fun hc => ?_)
        · rw [if_pos hc] at h
          refine z_iload v5 dX9_run_107 rfl ?_
          refine z_iload_n v3 dX9_run_109 rfl rfl ?_
          refine z_icmp_ne 116 dX9_run_110 rfl (fun hc => ?_) (fun hc => ?_)
          · rw [if_neg hc] at h
            refine z_iinc (i := 5) v5 (v5 + 1) dX9_run_116 rfl rfl (by decide) rfl ?_
            refine z_aload_n v0 dX9_run_119 rfl rfl ?_
            obtain ⟨r6, e, h⟩ := h
            refine zq_fR f_X9_18 dX9_run_120 e ?_
            refine z_iload v4 dX9_run_123 rfl ?_
            refine z_iload (x3 + 1) dX9_run_125 rfl ?_
            obtain ⟨w7, e, h⟩ := h
            refine zq_sI dX9_run_127 e ?_
            refine z_aload_n v0 dX9_run_128 rfl rfl ?_
            refine z_iload v4 dX9_run_129 rfl ?_
            refine zq_VI (N := MX9_canStand) (As := [.int v4]) m_X9_74 dX9_run_131 rfl rfl (Nat.le_of_ble_eq_true rfl) h (fun x9 w8 h => ?_)
            refine z_if_eq 164 dX9_run_134 rfl (fun hc => ?_) (fun hc => ?_)
            · rw [if_pos hc] at h
              exact zRn.weak h (zLe_of [true, true, true, true, true, true, true, false] (And.intro rfl (And.intro rfl (And.intro rfl (And.intro rfl (And.intro rfl (And.intro rfl (And.intro rfl (And.intro rfl (trivial))))))))))
            · rw [if_neg hc] at h
              refine z_aload_n v0 dX9_run_137 rfl rfl ?_
              refine z_iload v4 dX9_run_138 rfl ?_
              refine z_aload_n v1 dX9_run_140 rfl rfl ?_
              refine zq_VV (N := MX9_putIn) (As := [.int v4, .ref v1]) m_X9_78 dX9_run_141 rfl rfl (Nat.le_of_ble_eq_true rfl) h (fun w10 h => ?_)
              refine z_iinc (i := 4) v4 (v4 + 1) dX9_run_144 rfl rfl (by decide) rfl ?_
              refine z_iload (v4 + 1) dX9_run_147 rfl ?_
              refine z_aload_n v0 dX9_run_149 rfl rfl ?_
              obtain ⟨x11, e, h⟩ := h
              refine zq_fI f_X9_30 dX9_run_150 e ?_
              refine z_icmp_ge 164 dX9_run_153 rfl (fun hc => ?_) (fun hc => ?_)
              · rw [if_pos hc] at h
                exact zRn.weak h (zLe_of [true, true, true, true, true, true, true, false] (And.intro rfl (And.intro rfl (And.intro rfl (And.intro rfl (And.intro rfl (And.intro rfl (And.intro rfl (And.intro rfl (trivial))))))))))
              · rw [if_neg hc] at h
                refine z_aload_n v0 dX9_run_156 rfl rfl ?_
                obtain ⟨r12, e, h⟩ := h
                refine zq_fR f_X9_18 dX9_run_157 e ?_
                refine z_iload (v4 + 1) dX9_run_160 rfl ?_
                refine z_iconst (-1) dX9_run_162 rfl ?_
                obtain ⟨w13, e, h⟩ := h
                refine zq_sI dX9_run_163 e ?_
                exact zRn.weak h (zLe_of [true, true, true, true, true, true, true, false] (And.intro rfl (And.intro rfl (And.intro rfl (And.intro rfl (And.intro rfl (And.intro rfl (And.intro rfl (And.intro rfl (trivial))))))))))
          · rw [if_pos hc] at h
            refine z_bipush (-3) dX9_run_113 rfl ?_
            exact z_ireturn .int dX9_run_115 rfl rfl h
        · rw [if_neg hc] at h
          exact zRn.weak h (zLe_of [true, true, true, true, true, true, true, false] (And.intro rfl (And.intro rfl (And.intro rfl (And.intro rfl (And.intro rfl (And.intro rfl (And.intro rfl (And.intro rfl (trivial))))))))))
set_option maxRecDepth 100000 in
set_option maxHeartbeats 4000000 in
theorem bX9_run_88 {X : zX} {d kc ks : Nat} {w : zW} {Q : Option Value → zW → Prop} (v0 : Nat) (v1 : Nat) (v2 : Int32) (v3 : Int32) (v4 : Int32) (v5 : Int32) (v6 : Int32)
    (h : if 0 ≤ (v4 - 1) then (zIs w v0 9 ∧ zCallV X d MX9_takeOut [.ref v0, .int (v4 - 1)] w (fun w1 => zRn X d kc ks MX9_run 164 [some (.ref v0), some (.ref v1), some (.int v2), some (.int v3), some (.int (v4 - 1)), some (.int v5), some (.int v6), none] [] w1 Q)) else (Q (some (.int (-1))) w)) :
    zRn X d kc ks MX9_run 88 [some (.ref v0), some (.ref v1), some (.int v2), some (.int v3), some (.int v4), some (.int v5), some (.int v6), none] [] w Q := by
  refine z_iinc (i := 4) v4 (v4 - 1) dX9_run_88 rfl (zdec _) (by decide) rfl ?_
  refine z_iload (v4 - 1) dX9_run_91 rfl ?_
  refine z_if_ge 98 dX9_run_93 rfl (fun hc => ?_) (fun hc => ?_)
  · rw [if_pos hc] at h
    refine z_aload_n v0 dX9_run_98 rfl rfl ?_
    refine z_iload (v4 - 1) dX9_run_99 rfl ?_
    refine zq_VV (N := MX9_takeOut) (As := [.int (v4 - 1)]) m_X9_70 dX9_run_101 rfl rfl (Nat.le_of_ble_eq_true rfl) h (fun w1 h => ?_)
    refine z_goto 164 dX9_run_104 rfl ?_
    exact h
  · rw [if_neg hc] at h
    refine z_iconst (-1) dX9_run_96 rfl ?_
    exact z_ireturn .int dX9_run_97 rfl rfl h
set_option maxRecDepth 100000 in
set_option maxHeartbeats 4000000 in
theorem bX9_run_164 {X : zX} {d kc ks : Nat} {w : zW} {Q : Option Value → zW → Prop} (v0 : Nat) (v1 : Nat) (v2 : Int32) (v3 : Int32) (v4 : Int32) (v5 : Int32) (v6 : Int32)
    (h : zRn X d kc ks MX9_run 40 [some (.ref v0), some (.ref v1), some (.int v2), some (.int v3), some (.int v4), some (.int v5), some (.int (v6 + 1)), none] [] w Q) :
    zRn X d kc ks MX9_run 164 [some (.ref v0), some (.ref v1), some (.int v2), some (.int v3), some (.int v4), some (.int v5), some (.int v6), none] [] w Q := by
  refine z_iinc (i := 6) v6 (v6 + 1) dX9_run_164 rfl rfl (by decide) rfl ?_
  refine z_goto 40 dX9_run_167 rfl ?_
  exact h
theorem eX9_run {X : zX} {d kc ks : Nat} {w : zW} {Q : Option Value → zW → Prop} (p0 : Nat) (p1 : Nat) (a2 : Int32) (a3 : Int32) (h : zRn X d kc ks MX9_run 0 [some (.ref p0), some (.ref p1), some (.int a2), some (.int a3), none, none, none, none] [] w Q) : zEv X d kc ks MX9_run [.ref p0, .ref p1, .int a2, .int a3] w Q :=
  zEv.of (by decide) (Nat.le_of_ble_eq_true rfl) (Or.inr (by simp [Value.category])) h
set_option maxRecDepth 100000 in
set_option maxHeartbeats 4000000 in
theorem bX9_startPlaces_0 {X : zX} {d kc ks : Nat} {w : zW} {Q : Option Value → zW → Prop} (p0 : Nat) (p1 : Nat)
    (h : zRn X d kc ks MX9_startPlaces 2 [some (.ref p0), some (.ref p1), some (.int 0), none] [] w Q) :
    zRn X d kc ks MX9_startPlaces 0 [some (.ref p0), some (.ref p1), none, none] [] w Q := by
  refine z_iconst 0 dX9_startPlaces_0 rfl ?_
  refine z_istore_n (i := 2) dX9_startPlaces_1 rfl (by decide) rfl ?_
  exact h
set_option maxRecDepth 100000 in
set_option maxHeartbeats 4000000 in
theorem bX9_startPlaces_2 {X : zX} {d kc ks : Nat} {w : zW} {Q : Option Value → zW → Prop} (v0 : Nat) (v1 : Nat) (v2 : Int32)
    (h : if 4 ≤ v2 then (Q none w) else (zRn X d kc ks MX9_startPlaces 9 [some (.ref v0), some (.ref v1), some (.int v2), some (.int 0)] [] w Q)) :
    zRn X d kc ks MX9_startPlaces 2 [some (.ref v0), some (.ref v1), some (.int v2), none] [] w Q := by
  refine z_iload_n v2 dX9_startPlaces_2 rfl rfl ?_
  refine z_iconst 4 dX9_startPlaces_3 rfl ?_
  refine z_icmp_ge 43 dX9_startPlaces_4 rfl (fun hc => ?_) (fun hc => ?_)
  · rw [if_pos hc] at h
    exact z_vreturn dX9_startPlaces_43 rfl h
  · rw [if_neg hc] at h
    refine z_iconst 0 dX9_startPlaces_7 rfl ?_
    refine z_istore_n (i := 3) dX9_startPlaces_8 rfl (by decide) rfl ?_
    exact h
set_option maxRecDepth 100000 in
set_option maxHeartbeats 4000000 in
theorem bX9_startPlaces_9 {X : zX} {d kc ks : Nat} {w : zW} {Q : Option Value → zW → Prop} (v0 : Nat) (v1 : Nat) (v2 : Int32) (v3 : Int32)
    (h : if 8 ≤ v3 then (zRn X d kc ks MX9_startPlaces 2 [some (.ref v0), some (.ref v1), some (.int (v2 + 1)), none] [] w Q) else (∃ r1, zfR w v0 9 4 = some r1 ∧ (zIs w v1 5 ∧ zCallI X d MX5_aboveOf [.ref v1, .int v3] w (fun x3 w2 => ∃ w4, zsI w2 r1 ((v2 * 8) + v3) x3 = some w4 ∧ (zRn X d kc ks MX9_startPlaces 9 [some (.ref v0), some (.ref v1), some (.int v2), some (.int (v3 + 1))] [] w4 Q))))) :
    zRn X d kc ks MX9_startPlaces 9 [some (.ref v0), some (.ref v1), some (.int v2), some (.int v3)] [] w Q := by
  refine z_iload_n v3 dX9_startPlaces_9 rfl rfl ?_
  refine z_bipush 8 dX9_startPlaces_10 rfl ?_
  refine z_icmp_ge 37 dX9_startPlaces_12 rfl (fun hc => ?_) (fun hc => ?_)
  · rw [if_pos hc] at h
    refine z_iinc (i := 2) v2 (v2 + 1) dX9_startPlaces_37 rfl rfl (by decide) rfl ?_
    refine z_goto 2 dX9_startPlaces_40 rfl ?_
    exact zRn.weak h (zLe_of [true, true, true, false] (And.intro rfl (And.intro rfl (And.intro rfl (And.intro rfl (trivial))))))
  · rw [if_neg hc] at h
    refine z_aload_n v0 dX9_startPlaces_15 rfl rfl ?_
    obtain ⟨r1, e, h⟩ := h
    refine zq_fR f_X9_24 dX9_startPlaces_16 e ?_
    refine z_iload_n v2 dX9_startPlaces_19 rfl rfl ?_
    refine z_bipush 8 dX9_startPlaces_20 rfl ?_
    refine z_imul dX9_startPlaces_22 ?_
    refine z_iload_n v3 dX9_startPlaces_23 rfl rfl ?_
    refine z_iadd dX9_startPlaces_24 ?_
    refine z_aload_n v1 dX9_startPlaces_25 rfl rfl ?_
    refine z_iload_n v3 dX9_startPlaces_26 rfl rfl ?_
    refine zq_VI (N := MX5_aboveOf) (As := [.int v3]) m_X9_50 dX9_startPlaces_27 rfl rfl (Nat.le_of_ble_eq_true rfl) h (fun x3 w2 h => ?_)
    obtain ⟨w4, e, h⟩ := h
    refine zq_sI dX9_startPlaces_30 e ?_
    refine z_iinc (i := 3) v3 (v3 + 1) dX9_startPlaces_31 rfl rfl (by decide) rfl ?_
    refine z_goto 9 dX9_startPlaces_34 rfl ?_
    exact h
theorem eX9_startPlaces {X : zX} {d kc ks : Nat} {w : zW} {Q : Option Value → zW → Prop} (p0 : Nat) (p1 : Nat) (h : zRn X d kc ks MX9_startPlaces 0 [some (.ref p0), some (.ref p1), none, none] [] w Q) : zEv X d kc ks MX9_startPlaces [.ref p0, .ref p1] w Q :=
  zEv.of (by decide) (Nat.le_of_ble_eq_true rfl) (Or.inr (by simp [Value.category])) h
set_option maxRecDepth 100000 in
set_option maxHeartbeats 4000000 in
theorem bX9_takeOut_0 {X : zX} {d kc ks : Nat} {w : zW} {Q : Option Value → zW → Prop} (p0 : Nat) (a1 : Int32)
    (h : ∃ r1, zfR w p0 9 2 = some r1 ∧ (∃ x2, zaI w r1 a1 = some x2 ∧ (zRn X d kc ks MX9_takeOut 12 [some (.ref p0), some (.int a1), some (.int (x2 * 8)), some (.int 0)] [] w Q))) :
    zRn X d kc ks MX9_takeOut 0 [some (.ref p0), some (.int a1), none, none] [] w Q := by
  refine z_aload_n p0 dX9_takeOut_0 rfl rfl ?_
  obtain ⟨r1, e, h⟩ := h
  refine zq_fR f_X9_18 dX9_takeOut_1 e ?_
  refine z_iload_n a1 dX9_takeOut_4 rfl rfl ?_
  obtain ⟨x2, e, h⟩ := h
  refine zq_aI dX9_takeOut_5 e ?_
  refine z_bipush 8 dX9_takeOut_6 rfl ?_
  refine z_imul dX9_takeOut_8 ?_
  refine z_istore_n (i := 2) dX9_takeOut_9 rfl (by decide) rfl ?_
  refine z_iconst 0 dX9_takeOut_10 rfl ?_
  refine z_istore_n (i := 3) dX9_takeOut_11 rfl (by decide) rfl ?_
  exact h
set_option maxRecDepth 100000 in
set_option maxHeartbeats 4000000 in
theorem bX9_takeOut_12 {X : zX} {d kc ks : Nat} {w : zW} {Q : Option Value → zW → Prop} (v0 : Nat) (v1 : Int32) (v2 : Int32) (v3 : Int32)
    (h : if 8 ≤ v3 then (Q none w) else (∃ r1, zfR w v0 9 4 = some r1 ∧ (∃ r2, zfR w v0 9 5 = some r2 ∧ (∃ x3, zaI w r2 ((v1 * 8) + v3) = some x3 ∧ (∃ w4, zsI w r1 (v2 + v3) x3 = some w4 ∧ (zRn X d kc ks MX9_takeOut 12 [some (.ref v0), some (.int v1), some (.int v2), some (.int (v3 + 1))] [] w4 Q)))))) :
    zRn X d kc ks MX9_takeOut 12 [some (.ref v0), some (.int v1), some (.int v2), some (.int v3)] [] w Q := by
  refine z_iload_n v3 dX9_takeOut_12 rfl rfl ?_
  refine z_bipush 8 dX9_takeOut_13 rfl ?_
  refine z_icmp_ge 43 dX9_takeOut_15 rfl (fun hc => ?_) (fun hc => ?_)
  · rw [if_pos hc] at h
    exact z_vreturn dX9_takeOut_43 rfl h
  · rw [if_neg hc] at h
    refine z_aload_n v0 dX9_takeOut_18 rfl rfl ?_
    obtain ⟨r1, e, h⟩ := h
    refine zq_fR f_X9_24 dX9_takeOut_19 e ?_
    refine z_iload_n v2 dX9_takeOut_22 rfl rfl ?_
    refine z_iload_n v3 dX9_takeOut_23 rfl rfl ?_
    refine z_iadd dX9_takeOut_24 ?_
    refine z_aload_n v0 dX9_takeOut_25 rfl rfl ?_
    obtain ⟨r2, e, h⟩ := h
    refine zq_fR f_X9_27 dX9_takeOut_26 e ?_
    refine z_iload_n v1 dX9_takeOut_29 rfl rfl ?_
    refine z_bipush 8 dX9_takeOut_30 rfl ?_
    refine z_imul dX9_takeOut_32 ?_
    refine z_iload_n v3 dX9_takeOut_33 rfl rfl ?_
    refine z_iadd dX9_takeOut_34 ?_
    obtain ⟨x3, e, h⟩ := h
    refine zq_aI dX9_takeOut_35 e ?_
    obtain ⟨w4, e, h⟩ := h
    refine zq_sI dX9_takeOut_36 e ?_
    refine z_iinc (i := 3) v3 (v3 + 1) dX9_takeOut_37 rfl rfl (by decide) rfl ?_
    refine z_goto 12 dX9_takeOut_40 rfl ?_
    exact h
theorem eX9_takeOut {X : zX} {d kc ks : Nat} {w : zW} {Q : Option Value → zW → Prop} (p0 : Nat) (a1 : Int32) (h : zRn X d kc ks MX9_takeOut 0 [some (.ref p0), some (.int a1), none, none] [] w Q) : zEv X d kc ks MX9_takeOut [.ref p0, .int a1] w Q :=
  zEv.of (by decide) (Nat.le_of_ble_eq_true rfl) (Or.inr (by simp [Value.category])) h
set_option maxRecDepth 100000 in
set_option maxHeartbeats 4000000 in
theorem bX9_canStand_0 {X : zX} {d kc ks : Nat} {w : zW} {Q : Option Value → zW → Prop} (p0 : Nat) (a1 : Int32)
    (h : ∃ r1, zfR w p0 9 2 = some r1 ∧ (∃ x2, zaI w r1 a1 = some x2 ∧ (∃ r3, zfR w p0 9 4 = some r3 ∧ (∃ r4, zfR w p0 9 0 = some r4 ∧ (∃ x5, zaI w r4 a1 = some x5 ∧ (∃ x6, zaI w r3 ((x2 * 8) + x5) = some x6 ∧ (∃ r7, zfR w p0 9 1 = some r7 ∧ (∃ x8, zaI w r7 a1 = some x8 ∧ (if ((x6 >>> (x8 &&& 31)) &&& 1) = 0 then (Q (some (.int 1)) w) else (Q (some (.int 0)) w)))))))))) :
    zRn X d kc ks MX9_canStand 0 [some (.ref p0), some (.int a1), none] [] w Q := by
  refine z_aload_n p0 dX9_canStand_0 rfl rfl ?_
  obtain ⟨r1, e, h⟩ := h
  refine zq_fR f_X9_18 dX9_canStand_1 e ?_
  refine z_iload_n a1 dX9_canStand_4 rfl rfl ?_
  obtain ⟨x2, e, h⟩ := h
  refine zq_aI dX9_canStand_5 e ?_
  refine z_bipush 8 dX9_canStand_6 rfl ?_
  refine z_imul dX9_canStand_8 ?_
  refine z_istore_n (i := 2) dX9_canStand_9 rfl (by decide) rfl ?_
  refine z_aload_n p0 dX9_canStand_10 rfl rfl ?_
  obtain ⟨r3, e, h⟩ := h
  refine zq_fR f_X9_24 dX9_canStand_11 e ?_
  refine z_iload_n (x2 * 8) dX9_canStand_14 rfl rfl ?_
  refine z_aload_n p0 dX9_canStand_15 rfl rfl ?_
  obtain ⟨r4, e, h⟩ := h
  refine zq_fR f_X9_9 dX9_canStand_16 e ?_
  refine z_iload_n a1 dX9_canStand_19 rfl rfl ?_
  obtain ⟨x5, e, h⟩ := h
  refine zq_aI dX9_canStand_20 e ?_
  refine z_iadd dX9_canStand_21 ?_
  obtain ⟨x6, e, h⟩ := h
  refine zq_aI dX9_canStand_22 e ?_
  refine z_aload_n p0 dX9_canStand_23 rfl rfl ?_
  obtain ⟨r7, e, h⟩ := h
  refine zq_fR f_X9_15 dX9_canStand_24 e ?_
  refine z_iload_n a1 dX9_canStand_27 rfl rfl ?_
  obtain ⟨x8, e, h⟩ := h
  refine zq_aI dX9_canStand_28 e ?_
  refine z_ishr dX9_canStand_29 ?_
  refine z_iconst 1 dX9_canStand_30 rfl ?_
  refine z_iand dX9_canStand_31 ?_
  refine z_if_ne 39 dX9_canStand_32 rfl (fun hc => ?_) (fun hc => ?_)
  · rw [if_neg hc] at h
    refine z_iconst 0 dX9_canStand_39 rfl ?_
    exact z_ireturn .boolean dX9_canStand_40 rfl rfl h
  · rw [if_pos hc] at h
    refine z_iconst 1 dX9_canStand_35 rfl ?_
    refine z_goto 40 dX9_canStand_36 rfl ?_
    exact z_ireturn .boolean dX9_canStand_40 rfl rfl h
theorem eX9_canStand {X : zX} {d kc ks : Nat} {w : zW} {Q : Option Value → zW → Prop} (p0 : Nat) (a1 : Int32) (h : zRn X d kc ks MX9_canStand 0 [some (.ref p0), some (.int a1), none] [] w Q) : zEv X d kc ks MX9_canStand [.ref p0, .int a1] w Q :=
  zEv.of (by decide) (Nat.le_of_ble_eq_true rfl) (Or.inr (by simp [Value.category])) h
set_option maxRecDepth 100000 in
set_option maxHeartbeats 4000000 in
theorem bX9_putIn_0 {X : zX} {d kc ks : Nat} {w : zW} {Q : Option Value → zW → Prop} (p0 : Nat) (a1 : Int32) (p2 : Nat)
    (h : ∃ r1, zfR w p0 9 2 = some r1 ∧ (∃ x2, zaI w r1 a1 = some x2 ∧ (∃ r3, zfR w p0 9 4 = some r3 ∧ (∃ r4, zfR w p0 9 0 = some r4 ∧ (∃ x5, zaI w r4 a1 = some x5 ∧ (∃ x6, zaI w r3 ((x2 * 8) + x5) = some x6 ∧ (∃ r7, zfR w p0 9 0 = some r7 ∧ (∃ x8, zaI w r7 a1 = some x8 ∧ (zRn X d kc ks MX9_putIn 37 [some (.ref p0), some (.int a1), some (.ref p2), some (.int (x2 * 8)), some (.int (x6 ||| ((1 : Int32) <<< (x8 &&& 31)))), some (.int 0)] [] w Q))))))))) :
    zRn X d kc ks MX9_putIn 0 [some (.ref p0), some (.int a1), some (.ref p2), none, none, none] [] w Q := by
  refine z_aload_n p0 dX9_putIn_0 rfl rfl ?_
  obtain ⟨r1, e, h⟩ := h
  refine zq_fR f_X9_18 dX9_putIn_1 e ?_
  refine z_iload_n a1 dX9_putIn_4 rfl rfl ?_
  obtain ⟨x2, e, h⟩ := h
  refine zq_aI dX9_putIn_5 e ?_
  refine z_bipush 8 dX9_putIn_6 rfl ?_
  refine z_imul dX9_putIn_8 ?_
  refine z_istore_n (i := 3) dX9_putIn_9 rfl (by decide) rfl ?_
  refine z_aload_n p0 dX9_putIn_10 rfl rfl ?_
  obtain ⟨r3, e, h⟩ := h
  refine zq_fR f_X9_24 dX9_putIn_11 e ?_
  refine z_iload_n (x2 * 8) dX9_putIn_14 rfl rfl ?_
  refine z_aload_n p0 dX9_putIn_15 rfl rfl ?_
  obtain ⟨r4, e, h⟩ := h
  refine zq_fR f_X9_9 dX9_putIn_16 e ?_
  refine z_iload_n a1 dX9_putIn_19 rfl rfl ?_
  obtain ⟨x5, e, h⟩ := h
  refine zq_aI dX9_putIn_20 e ?_
  refine z_iadd dX9_putIn_21 ?_
  obtain ⟨x6, e, h⟩ := h
  refine zq_aI dX9_putIn_22 e ?_
  refine z_iconst 1 dX9_putIn_23 rfl ?_
  refine z_aload_n p0 dX9_putIn_24 rfl rfl ?_
  obtain ⟨r7, e, h⟩ := h
  refine zq_fR f_X9_9 dX9_putIn_25 e ?_
  refine z_iload_n a1 dX9_putIn_28 rfl rfl ?_
  obtain ⟨x8, e, h⟩ := h
  refine zq_aI dX9_putIn_29 e ?_
  refine z_ishl dX9_putIn_30 ?_
  refine z_ior dX9_putIn_31 ?_
  refine z_istore (i := 4) dX9_putIn_32 (by decide) rfl ?_
  refine z_iconst 0 dX9_putIn_34 rfl ?_
  refine z_istore (i := 5) dX9_putIn_35 (by decide) rfl ?_
  exact h
set_option maxRecDepth 100000 in
set_option maxHeartbeats 4000000 in
theorem bX9_putIn_37 {X : zX} {d kc ks : Nat} {w : zW} {Q : Option Value → zW → Prop} (v0 : Nat) (v1 : Int32) (v2 : Nat) (v3 : Int32) (v4 : Int32) (v5 : Int32)
    (h : if 8 ≤ v5 then (zRn X d kc ks MX9_putIn 74 [some (.ref v0), some (.int v1), some (.ref v2), some (.int v3), some (.int v4), some (.int 0)] [] w Q) else (∃ r1, zfR w v0 9 5 = some r1 ∧ (∃ r2, zfR w v0 9 4 = some r2 ∧ (∃ x3, zaI w r2 (v3 + v5) = some x3 ∧ (∃ w4, zsI w r1 ((v1 * 8) + v5) x3 = some w4 ∧ (zRn X d kc ks MX9_putIn 37 [some (.ref v0), some (.int v1), some (.ref v2), some (.int v3), some (.int v4), some (.int (v5 + 1))] [] w4 Q)))))) :
    zRn X d kc ks MX9_putIn 37 [some (.ref v0), some (.int v1), some (.ref v2), some (.int v3), some (.int v4), some (.int v5)] [] w Q := by
  refine z_iload v5 dX9_putIn_37 rfl ?_
  refine z_bipush 8 dX9_putIn_39 rfl ?_
  refine z_icmp_ge 71 dX9_putIn_41 rfl (fun hc => ?_) (fun hc => ?_)
  · rw [if_pos hc] at h
    refine z_iconst 0 dX9_putIn_71 rfl ?_
    refine z_istore (i := 5) dX9_putIn_72 (by decide) rfl ?_
    exact h
  · rw [if_neg hc] at h
    refine z_aload_n v0 dX9_putIn_44 rfl rfl ?_
    obtain ⟨r1, e, h⟩ := h
    refine zq_fR f_X9_27 dX9_putIn_45 e ?_
    refine z_iload_n v1 dX9_putIn_48 rfl rfl ?_
    refine z_bipush 8 dX9_putIn_49 rfl ?_
    refine z_imul dX9_putIn_51 ?_
    refine z_iload v5 dX9_putIn_52 rfl ?_
    refine z_iadd dX9_putIn_54 ?_
    refine z_aload_n v0 dX9_putIn_55 rfl rfl ?_
    obtain ⟨r2, e, h⟩ := h
    refine zq_fR f_X9_24 dX9_putIn_56 e ?_
    refine z_iload_n v3 dX9_putIn_59 rfl rfl ?_
    refine z_iload v5 dX9_putIn_60 rfl ?_
    refine z_iadd dX9_putIn_62 ?_
    obtain ⟨x3, e, h⟩ := h
    refine zq_aI dX9_putIn_63 e ?_
    obtain ⟨w4, e, h⟩ := h
    refine zq_sI dX9_putIn_64 e ?_
    refine z_iinc (i := 5) v5 (v5 + 1) dX9_putIn_65 rfl rfl (by decide) rfl ?_
    refine z_goto 37 dX9_putIn_68 rfl ?_
    exact h
set_option maxRecDepth 100000 in
set_option maxHeartbeats 4000000 in
theorem bX9_putIn_74 {X : zX} {d kc ks : Nat} {w : zW} {Q : Option Value → zW → Prop} (v0 : Nat) (v1 : Int32) (v2 : Nat) (v3 : Int32) (v4 : Int32) (v5 : Int32)
    (h : zIs w v2 5 ∧ zCallI X d MX5_size [.ref v2] w (fun x2 w1 => if x2 ≤ v5 then (∃ r3, zfR w1 v0 9 3 = some r3 ∧ (∃ r4, zfR w1 v0 9 3 = some r4 ∧ (∃ x5, zaI w1 r4 v1 = some x5 ∧ (∃ r6, zfR w1 v0 9 2 = some r6 ∧ (∃ x7, zaI w1 r6 v1 = some x7 ∧ (0 < d ∧ (∃ w8, zsI w1 r3 (v1 + 1) (if x5 < (x7 + 1) then (x7 + 1) else x5) = some w8 ∧ (Q none w8)))))))) else (∃ r9, zfR w1 v0 9 1 = some r9 ∧ (∃ x10, zaI w1 r9 v1 = some x10 ∧ (if v5 = x10 then (zRn X d kc ks MX9_putIn 116 [some (.ref v0), some (.int v1), some (.ref v2), some (.int v3), some (.int v4), some (.int v5)] [] w1 Q) else (∃ r11, zfR w1 v0 9 4 = some r11 ∧ (∃ x12, zaI w1 r11 (v3 + v5) = some x12 ∧ (∃ r13, zfR w1 v0 9 1 = some r13 ∧ (∃ x14, zaI w1 r13 v1 = some x14 ∧ (if ((x12 >>> (x14 &&& 31)) &&& 1) = 1 then (zRn X d kc ks MX9_putIn 116 [some (.ref v0), some (.int v1), some (.ref v2), some (.int v3), some (.int v4), some (.int v5)] [] w1 Q) else (zRn X d kc ks MX9_putIn 130 [some (.ref v0), some (.int v1), some (.ref v2), some (.int v3), some (.int v4), some (.int v5)] [] w1 Q))))))))))) :
    zRn X d kc ks MX9_putIn 74 [some (.ref v0), some (.int v1), some (.ref v2), some (.int v3), some (.int v4), some (.int v5)] [] w Q := by
  refine z_iload v5 dX9_putIn_74 rfl ?_
  refine z_aload_n v2 dX9_putIn_76 rfl rfl ?_
  refine zq_VI (N := MX5_size) (As := []) m_X9_34 dX9_putIn_77 rfl rfl (Nat.le_of_ble_eq_true rfl) h (fun x2 w1 h => ?_)
  refine z_icmp_ge 136 dX9_putIn_80 rfl (fun hc => ?_) (fun hc => ?_)
  · rw [if_pos hc] at h
    refine z_aload_n v0 dX9_putIn_136 rfl rfl ?_
    obtain ⟨r3, e, h⟩ := h
    refine zq_fR f_X9_21 dX9_putIn_137 e ?_
    refine z_iload_n v1 dX9_putIn_140 rfl rfl ?_
    refine z_iconst 1 dX9_putIn_141 rfl ?_
    refine z_iadd dX9_putIn_142 ?_
    refine z_aload_n v0 dX9_putIn_143 rfl rfl ?_
    obtain ⟨r4, e, h⟩ := h
    refine zq_fR f_X9_21 dX9_putIn_144 e ?_
    refine z_iload_n v1 dX9_putIn_147 rfl rfl ?_
    obtain ⟨x5, e, h⟩ := h
    refine zq_aI dX9_putIn_148 e ?_
    refine z_aload_n v0 dX9_putIn_149 rfl rfl ?_
    obtain ⟨r6, e, h⟩ := h
    refine zq_fR f_X9_18 dX9_putIn_150 e ?_
    refine z_iload_n v1 dX9_putIn_153 rfl rfl ?_
    obtain ⟨x7, e, h⟩ := h
    refine zq_aI dX9_putIn_154 e ?_
    refine z_iconst 1 dX9_putIn_155 rfl ?_
    refine z_iadd dX9_putIn_156 ?_
    refine z_mmax g_1034 g_191 g_106 g_192 dX9_putIn_157 (Nat.le_of_ble_eq_true rfl) h.1 ?_
    have h := h.2
    obtain ⟨w8, e, h⟩ := h
    refine zq_sI dX9_putIn_160 e ?_
    exact z_vreturn dX9_putIn_161 rfl h
  · rw [if_neg hc] at h
    refine z_iload v5 dX9_putIn_83 rfl ?_
    refine z_aload_n v0 dX9_putIn_85 rfl rfl ?_
    obtain ⟨r9, e, h⟩ := h
    refine zq_fR f_X9_15 dX9_putIn_86 e ?_
    refine z_iload_n v1 dX9_putIn_89 rfl rfl ?_
    obtain ⟨x10, e, h⟩ := h
    refine zq_aI dX9_putIn_90 e ?_
    refine z_icmp_eq 116 dX9_putIn_91 rfl (fun hc => ?_) (fun hc => ?_)
    · rw [if_pos hc] at h
      exact h
    · rw [if_neg hc] at h
      refine z_aload_n v0 dX9_putIn_94 rfl rfl ?_
      obtain ⟨r11, e, h⟩ := h
      refine zq_fR f_X9_24 dX9_putIn_95 e ?_
      refine z_iload_n v3 dX9_putIn_98 rfl rfl ?_
      refine z_iload v5 dX9_putIn_99 rfl ?_
      refine z_iadd dX9_putIn_101 ?_
      obtain ⟨x12, e, h⟩ := h
      refine zq_aI dX9_putIn_102 e ?_
      refine z_aload_n v0 dX9_putIn_103 rfl rfl ?_
      obtain ⟨r13, e, h⟩ := h
      refine zq_fR f_X9_15 dX9_putIn_104 e ?_
      refine z_iload_n v1 dX9_putIn_107 rfl rfl ?_
      obtain ⟨x14, e, h⟩ := h
      refine zq_aI dX9_putIn_108 e ?_
      refine z_ishr dX9_putIn_109 ?_
      refine z_iconst 1 dX9_putIn_110 rfl ?_
      refine z_iand dX9_putIn_111 ?_
      refine z_iconst 1 dX9_putIn_112 rfl ?_
      refine z_icmp_ne 130 dX9_putIn_113 rfl (fun hc => ?_) (fun hc => ?_)
      · rw [if_neg hc] at h
        exact h
      · rw [if_pos hc] at h
        exact h
set_option maxRecDepth 100000 in
set_option maxHeartbeats 4000000 in
theorem bX9_putIn_116 {X : zX} {d kc ks : Nat} {w : zW} {Q : Option Value → zW → Prop} (v0 : Nat) (v1 : Int32) (v2 : Nat) (v3 : Int32) (v4 : Int32) (v5 : Int32)
    (h : ∃ r1, zfR w v0 9 4 = some r1 ∧ (∃ x2, zaI w r1 (v3 + v5) = some x2 ∧ (∃ w3, zsI w r1 (v3 + v5) (x2 ||| v4) = some w3 ∧ (zRn X d kc ks MX9_putIn 130 [some (.ref v0), some (.int v1), some (.ref v2), some (.int v3), some (.int v4), some (.int v5)] [] w3 Q)))) :
    zRn X d kc ks MX9_putIn 116 [some (.ref v0), some (.int v1), some (.ref v2), some (.int v3), some (.int v4), some (.int v5)] [] w Q := by
  refine z_aload_n v0 dX9_putIn_116 rfl rfl ?_
  obtain ⟨r1, e, h⟩ := h
  refine zq_fR f_X9_24 dX9_putIn_117 e ?_
  refine z_iload_n v3 dX9_putIn_120 rfl rfl ?_
  refine z_iload v5 dX9_putIn_121 rfl ?_
  refine z_iadd dX9_putIn_123 ?_
  refine z_dup2 dX9_putIn_124 rfl rfl ?_
  obtain ⟨x2, e, h⟩ := h
  refine zq_aI dX9_putIn_125 e ?_
  refine z_iload v4 dX9_putIn_126 rfl ?_
  refine z_ior dX9_putIn_128 ?_
  obtain ⟨w3, e, h⟩ := h
  refine zq_sI dX9_putIn_129 e ?_
  exact h
set_option maxRecDepth 100000 in
set_option maxHeartbeats 4000000 in
theorem bX9_putIn_130 {X : zX} {d kc ks : Nat} {w : zW} {Q : Option Value → zW → Prop} (v0 : Nat) (v1 : Int32) (v2 : Nat) (v3 : Int32) (v4 : Int32) (v5 : Int32)
    (h : zRn X d kc ks MX9_putIn 74 [some (.ref v0), some (.int v1), some (.ref v2), some (.int v3), some (.int v4), some (.int (v5 + 1))] [] w Q) :
    zRn X d kc ks MX9_putIn 130 [some (.ref v0), some (.int v1), some (.ref v2), some (.int v3), some (.int v4), some (.int v5)] [] w Q := by
  refine z_iinc (i := 5) v5 (v5 + 1) dX9_putIn_130 rfl rfl (by decide) rfl ?_
  refine z_goto 74 dX9_putIn_133 rfl ?_
  exact h
theorem eX9_putIn {X : zX} {d kc ks : Nat} {w : zW} {Q : Option Value → zW → Prop} (p0 : Nat) (a1 : Int32) (p2 : Nat) (h : zRn X d kc ks MX9_putIn 0 [some (.ref p0), some (.int a1), some (.ref p2), none, none, none] [] w Q) : zEv X d kc ks MX9_putIn [.ref p0, .int a1, .ref p2] w Q :=
  zEv.of (by decide) (Nat.le_of_ble_eq_true rfl) (Or.inr (by simp [Value.category])) h
set_option maxRecDepth 100000 in
set_option maxHeartbeats 4000000 in
theorem bX9_writeRows_0 {X : zX} {d kc ks : Nat} {w : zW} {Q : Option Value → zW → Prop} (p0 : Nat) (p1 : Nat) (a2 : Int32) (p3 : Nat)
    (h : zIs w p3 8 ∧ zCallV X d MX8_clear [.ref p3] w (fun w1 => zRn X d kc ks MX9_writeRows 7 [some (.ref p0), some (.ref p1), some (.int a2), some (.ref p3), some (.int 0), none, none, none, none] [] w1 Q)) :
    zRn X d kc ks MX9_writeRows 0 [some (.ref p0), some (.ref p1), some (.int a2), some (.ref p3), none, none, none, none, none] [] w Q := by
  refine z_aload_n p3 dX9_writeRows_0 rfl rfl ?_
  refine zq_VV (N := MX8_clear) (As := []) m_X9_88 dX9_writeRows_1 rfl rfl (Nat.le_of_ble_eq_true rfl) h (fun w1 h => ?_)
  refine z_iconst 0 dX9_writeRows_4 rfl ?_
  refine z_istore (i := 4) dX9_writeRows_5 (by decide) rfl ?_
  exact h
set_option maxRecDepth 100000 in
set_option maxHeartbeats 4000000 in
theorem bX9_writeRows_7 {X : zX} {d kc ks : Nat} {w : zW} {Q : Option Value → zW → Prop} (v0 : Nat) (v1 : Nat) (v2 : Int32) (v3 : Nat) (v4 : Int32)
    (h : if v2 ≤ v4 then (Q none w) else (if 4 ≤ v4 then (Q none w) else (zIs w v3 8 ∧ zCallI X d MX8_open [.ref v3] w (fun x2 w1 => zIs w1 v1 5 ∧ zCallI X d MX5_all [.ref v1] w1 (fun x4 w3 => zRn X d kc ks MX9_writeRows 34 [some (.ref v0), some (.ref v1), some (.int v2), some (.ref v3), some (.int v4), some (.int x2), some (.int x4), some (.int 0), none] [] w3 Q))))) :
    zRn X d kc ks MX9_writeRows 7 [some (.ref v0), some (.ref v1), some (.int v2), some (.ref v3), some (.int v4), none, none, none, none] [] w Q := by
  refine z_iload v4 dX9_writeRows_7 rfl ?_
  refine z_iload_n v2 dX9_writeRows_9 rfl rfl ?_
  refine z_icmp_ge 87 dX9_writeRows_10 rfl (fun hc => ?_) (fun hc => ?_)
  · rw [if_pos hc] at h
    exact z_vreturn dX9_writeRows_87 rfl h
  · rw [if_neg hc] at h
    refine z_iload v4 dX9_writeRows_13 rfl ?_
    refine z_iconst 4 dX9_writeRows_15 rfl ?_
    refine z_icmp_ge 87 dX9_writeRows_16 rfl (fun hc => ?_) (fun hc => ?_)
    · rw [if_pos hc] at h
      exact z_vreturn dX9_writeRows_87 rfl h
    · rw [if_neg hc] at h
      refine z_aload_n v3 dX9_writeRows_19 rfl rfl ?_
      refine zq_VI (N := MX8_open) (As := []) m_X9_91 dX9_writeRows_20 rfl rfl (Nat.le_of_ble_eq_true rfl) h (fun x2 w1 h => ?_)
      refine z_istore (i := 5) dX9_writeRows_23 (by decide) rfl ?_
      refine z_aload_n v1 dX9_writeRows_25 rfl rfl ?_
      refine zq_VI (N := MX5_all) (As := []) m_X9_94 dX9_writeRows_26 rfl rfl (Nat.le_of_ble_eq_true rfl) h (fun x4 w3 h => ?_)
      refine z_istore (i := 6) dX9_writeRows_29 (by decide) rfl ?_
      refine z_iconst 0 dX9_writeRows_31 rfl ?_
      refine z_istore (i := 7) dX9_writeRows_32 (by decide) rfl ?_
      exact h
set_option maxRecDepth 100000 in
set_option maxHeartbeats 4000000 in
theorem bX9_writeRows_34 {X : zX} {d kc ks : Nat} {w : zW} {Q : Option Value → zW → Prop} (v0 : Nat) (v1 : Nat) (v2 : Int32) (v3 : Nat) (v4 : Int32) (v5 : Int32) (v6 : Int32) (v7 : Int32)
    (h : zIs w v1 5 ∧ zCallI X d MX5_size [.ref v1] w (fun x2 w1 => if x2 ≤ v7 then (zRn X d kc ks MX9_writeRows 7 [some (.ref v0), some (.ref v1), some (.int v2), some (.ref v3), some (.int (v4 + 1)), none, none, none, none] [] w1 Q) else (zIs w1 v0 9 ∧ zCallI X d MX9_firstOf [.ref v0, .ref v1, .int v4, .int v6] w1 (fun x4 w3 => zIs w3 v3 8 ∧ zCallV X d MX8_put [.ref v3, .int v5, .int v7, .int x4] w3 (fun w5 => zRn X d kc ks MX9_writeRows 34 [some (.ref v0), some (.ref v1), some (.int v2), some (.ref v3), some (.int v4), some (.int v5), some (.int (v6 &&& (((1 : Int32) <<< (x4 &&& 31)) ^^^ (-1)))), some (.int (v7 + 1)), none] [] w5 Q))))) :
    zRn X d kc ks MX9_writeRows 34 [some (.ref v0), some (.ref v1), some (.int v2), some (.ref v3), some (.int v4), some (.int v5), some (.int v6), some (.int v7), none] [] w Q := by
  refine z_iload v7 dX9_writeRows_34 rfl ?_
  refine z_aload_n v1 dX9_writeRows_36 rfl rfl ?_
  refine zq_VI (N := MX5_size) (As := []) m_X9_34 dX9_writeRows_37 rfl rfl (Nat.le_of_ble_eq_true rfl) h (fun x2 w1 h => ?_)
  refine z_icmp_ge 81 dX9_writeRows_40 rfl (fun hc => ?_) (fun hc => ?_)
  · rw [if_pos hc] at h
    refine z_iinc (i := 4) v4 (v4 + 1) dX9_writeRows_81 rfl rfl (by decide) rfl ?_
    refine z_goto 7 dX9_writeRows_84 rfl ?_
    exact zRn.weak h (zLe_of [true, true, true, true, true, false, false, false, true] (And.intro rfl (And.intro rfl (And.intro rfl (And.intro rfl (And.intro rfl (And.intro rfl (And.intro rfl (And.intro rfl (And.intro rfl (trivial)))))))))))
  · rw [if_neg hc] at h
    refine z_aload_n v0 dX9_writeRows_43 rfl rfl ?_
    refine z_aload_n v1 dX9_writeRows_44 rfl rfl ?_
    refine z_iload v4 dX9_writeRows_45 rfl ?_
    refine z_iload v6 dX9_writeRows_47 rfl ?_
    refine zq_VI (N := MX9_firstOf) (As := [.ref v1, .int v4, .int v6]) m_X9_97 dX9_writeRows_49 rfl rfl (Nat.le_of_ble_eq_true rfl) h (fun x4 w3 h => ?_)
    refine z_istore (i := 8) dX9_writeRows_52 (by decide) rfl ?_
    refine z_aload_n v3 dX9_writeRows_54 rfl rfl ?_
    refine z_iload v5 dX9_writeRows_55 rfl ?_
    refine z_iload v7 dX9_writeRows_57 rfl ?_
    refine z_iload x4 dX9_writeRows_59 rfl ?_
    refine zq_VV (N := MX8_put) (As := [.int v5, .int v7, .int x4]) m_X9_101 dX9_writeRows_61 rfl rfl (Nat.le_of_ble_eq_true rfl) h (fun w5 h => ?_)
    refine z_iload v6 dX9_writeRows_64 rfl ?_
    refine z_iconst 1 dX9_writeRows_66 rfl ?_
    refine z_iload x4 dX9_writeRows_67 rfl ?_
    refine z_ishl dX9_writeRows_69 ?_
    refine z_iconst (-1) dX9_writeRows_70 rfl ?_
    refine z_ixor dX9_writeRows_71 ?_
    refine z_iand dX9_writeRows_72 ?_
    refine z_istore (i := 6) dX9_writeRows_73 (by decide) rfl ?_
    refine z_iinc (i := 7) v7 (v7 + 1) dX9_writeRows_75 rfl rfl (by decide) rfl ?_
    refine z_goto 34 dX9_writeRows_78 rfl ?_
    exact zRn.weak h (zLe_of [true, true, true, true, true, true, true, true, false] (And.intro rfl (And.intro rfl (And.intro rfl (And.intro rfl (And.intro rfl (And.intro rfl (And.intro rfl (And.intro rfl (And.intro rfl (trivial)))))))))))
theorem eX9_writeRows {X : zX} {d kc ks : Nat} {w : zW} {Q : Option Value → zW → Prop} (p0 : Nat) (p1 : Nat) (a2 : Int32) (p3 : Nat) (h : zRn X d kc ks MX9_writeRows 0 [some (.ref p0), some (.ref p1), some (.int a2), some (.ref p3), none, none, none, none, none] [] w Q) : zEv X d kc ks MX9_writeRows [.ref p0, .ref p1, .int a2, .ref p3] w Q :=
  zEv.of (by decide) (Nat.le_of_ble_eq_true rfl) (Or.inr (by simp [Value.category])) h
set_option maxRecDepth 100000 in
set_option maxHeartbeats 4000000 in
theorem bX9_firstOf_0 {X : zX} {d kc ks : Nat} {w : zW} {Q : Option Value → zW → Prop} (p0 : Nat) (p1 : Nat) (a2 : Int32) (a3 : Int32)
    (h : zRn X d kc ks MX9_firstOf 6 [some (.ref p0), some (.ref p1), some (.int a2), some (.int a3), some (.int 0), some (.int 0)] [] w Q) :
    zRn X d kc ks MX9_firstOf 0 [some (.ref p0), some (.ref p1), some (.int a2), some (.int a3), none, none] [] w Q := by
  refine z_iconst 0 dX9_firstOf_0 rfl ?_
  refine z_istore (i := 4) dX9_firstOf_1 (by decide) rfl ?_
  refine z_iconst 0 dX9_firstOf_3 rfl ?_
  refine z_istore (i := 5) dX9_firstOf_4 (by decide) rfl ?_
  exact h
set_option maxRecDepth 100000 in
set_option maxHeartbeats 4000000 in
theorem bX9_firstOf_6 {X : zX} {d kc ks : Nat} {w : zW} {Q : Option Value → zW → Prop} (v0 : Nat) (v1 : Nat) (v2 : Int32) (v3 : Int32) (v4 : Int32) (v5 : Int32)
    (h : zIs w v1 5 ∧ zCallI X d MX5_size [.ref v1] w (fun x2 w1 => if x2 ≤ v5 then (zRn X d kc ks MX9_firstOf 51 [none, some (.ref v1), none, some (.int v3), some (.int v4), some (.int 0)] [] w1 Q) else (if ((v3 >>> (v5 &&& 31)) &&& 1) = 1 then (∃ r3, zfR w1 v0 9 4 = some r3 ∧ (∃ x4, zaI w1 r3 ((v2 * 8) + v5) = some x4 ∧ (zRn X d kc ks MX9_firstOf 42 [some (.ref v0), some (.ref v1), some (.int v2), some (.int v3), some (.int (v4 ||| x4)), some (.int v5)] [] w1 Q))) else (zRn X d kc ks MX9_firstOf 42 [some (.ref v0), some (.ref v1), some (.int v2), some (.int v3), some (.int v4), some (.int v5)] [] w1 Q)))) :
    zRn X d kc ks MX9_firstOf 6 [some (.ref v0), some (.ref v1), some (.int v2), some (.int v3), some (.int v4), some (.int v5)] [] w Q := by
  refine z_iload v5 dX9_firstOf_6 rfl ?_
  refine z_aload_n v1 dX9_firstOf_8 rfl rfl ?_
  refine zq_VI (N := MX5_size) (As := []) m_X9_34 dX9_firstOf_9 rfl rfl (Nat.le_of_ble_eq_true rfl) h (fun x2 w1 h => ?_)
  refine z_icmp_ge 48 dX9_firstOf_12 rfl (fun hc => ?_) (fun hc => ?_)
  · rw [if_pos hc] at h
    refine z_iconst 0 dX9_firstOf_48 rfl ?_
    refine z_istore (i := 5) dX9_firstOf_49 (by decide) rfl ?_
    exact zRn.weak h (zLe_of [false, true, false, true, true, true] (And.intro rfl (And.intro rfl (And.intro rfl (And.intro rfl (And.intro rfl (And.intro rfl (trivial))))))))
  · rw [if_neg hc] at h
    refine z_iload_n v3 dX9_firstOf_15 rfl rfl ?_
    refine z_iload v5 dX9_firstOf_16 rfl ?_
    refine z_ishr dX9_firstOf_18 ?_
    refine z_iconst 1 dX9_firstOf_19 rfl ?_
    refine z_iand dX9_firstOf_20 ?_
    refine z_iconst 1 dX9_firstOf_21 rfl ?_
    refine z_icmp_ne 42 dX9_firstOf_22 rfl (fun hc => ?_) (fun hc => ?_)
    · rw [if_neg hc] at h
      exact h
    · rw [if_pos hc] at h
      refine z_iload v4 dX9_firstOf_25 rfl ?_
      refine z_aload_n v0 dX9_firstOf_27 rfl rfl ?_
      obtain ⟨r3, e, h⟩ := h
      refine zq_fR f_X9_24 dX9_firstOf_28 e ?_
      refine z_iload_n v2 dX9_firstOf_31 rfl rfl ?_
      refine z_bipush 8 dX9_firstOf_32 rfl ?_
      refine z_imul dX9_firstOf_34 ?_
      refine z_iload v5 dX9_firstOf_35 rfl ?_
      refine z_iadd dX9_firstOf_37 ?_
      obtain ⟨x4, e, h⟩ := h
      refine zq_aI dX9_firstOf_38 e ?_
      refine z_ior dX9_firstOf_39 ?_
      refine z_istore (i := 4) dX9_firstOf_40 (by decide) rfl ?_
      exact h
set_option maxRecDepth 100000 in
set_option maxHeartbeats 4000000 in
theorem bX9_firstOf_42 {X : zX} {d kc ks : Nat} {w : zW} {Q : Option Value → zW → Prop} (v0 : Nat) (v1 : Nat) (v2 : Int32) (v3 : Int32) (v4 : Int32) (v5 : Int32)
    (h : zRn X d kc ks MX9_firstOf 6 [some (.ref v0), some (.ref v1), some (.int v2), some (.int v3), some (.int v4), some (.int (v5 + 1))] [] w Q) :
    zRn X d kc ks MX9_firstOf 42 [some (.ref v0), some (.ref v1), some (.int v2), some (.int v3), some (.int v4), some (.int v5)] [] w Q := by
  refine z_iinc (i := 5) v5 (v5 + 1) dX9_firstOf_42 rfl rfl (by decide) rfl ?_
  refine z_goto 6 dX9_firstOf_45 rfl ?_
  exact h
set_option maxRecDepth 100000 in
set_option maxHeartbeats 4000000 in
theorem bX9_firstOf_51 {X : zX} {d kc ks : Nat} {w : zW} {Q : Option Value → zW → Prop} (v1 : Nat) (v3 : Int32) (v4 : Int32) (v5 : Int32)
    (h : zIs w v1 5 ∧ zCallI X d MX5_size [.ref v1] w (fun x2 w1 => if x2 ≤ v5 then (Q (some (.int 0)) w1) else (if (((v3 &&& (v4 ^^^ (-1))) >>> (v5 &&& 31)) &&& 1) = 1 then (Q (some (.int v5)) w1) else (zRn X d kc ks MX9_firstOf 51 [none, some (.ref v1), none, some (.int v3), some (.int v4), some (.int (v5 + 1))] [] w1 Q)))) :
    zRn X d kc ks MX9_firstOf 51 [none, some (.ref v1), none, some (.int v3), some (.int v4), some (.int v5)] [] w Q := by
  refine z_iload v5 dX9_firstOf_51 rfl ?_
  refine z_aload_n v1 dX9_firstOf_53 rfl rfl ?_
  refine zq_VI (N := MX5_size) (As := []) m_X9_34 dX9_firstOf_54 rfl rfl (Nat.le_of_ble_eq_true rfl) h (fun x2 w1 h => ?_)
  refine z_icmp_ge 84 dX9_firstOf_57 rfl (fun hc => ?_) (fun hc => ?_)
  · rw [if_pos hc] at h
    refine z_iconst 0 dX9_firstOf_84 rfl ?_
    exact z_ireturn .int dX9_firstOf_85 rfl rfl h
  · rw [if_neg hc] at h
    refine z_iload_n v3 dX9_firstOf_60 rfl rfl ?_
    refine z_iload v4 dX9_firstOf_61 rfl ?_
    refine z_iconst (-1) dX9_firstOf_63 rfl ?_
    refine z_ixor dX9_firstOf_64 ?_
    refine z_iand dX9_firstOf_65 ?_
    refine z_iload v5 dX9_firstOf_66 rfl ?_
    refine z_ishr dX9_firstOf_68 ?_
    refine z_iconst 1 dX9_firstOf_69 rfl ?_
    refine z_iand dX9_firstOf_70 ?_
    refine z_iconst 1 dX9_firstOf_71 rfl ?_
    refine z_icmp_ne 78 dX9_firstOf_72 rfl (fun hc => ?_) (fun hc => ?_)
    · rw [if_neg hc] at h
      refine z_iinc (i := 5) v5 (v5 + 1) dX9_firstOf_78 rfl rfl (by decide) rfl ?_
      refine z_goto 51 dX9_firstOf_81 rfl ?_
      exact h
    · rw [if_pos hc] at h
      refine z_iload v5 dX9_firstOf_75 rfl ?_
      exact z_ireturn .int dX9_firstOf_77 rfl rfl h
theorem eX9_firstOf {X : zX} {d kc ks : Nat} {w : zW} {Q : Option Value → zW → Prop} (p0 : Nat) (p1 : Nat) (a2 : Int32) (a3 : Int32) (h : zRn X d kc ks MX9_firstOf 0 [some (.ref p0), some (.ref p1), some (.int a2), some (.int a3), none, none] [] w Q) : zEv X d kc ks MX9_firstOf [.ref p0, .ref p1, .int a2, .int a3] w Q :=
  zEv.of (by decide) (Nat.le_of_ble_eq_true rfl) (Or.inr (by simp [Value.category])) h
