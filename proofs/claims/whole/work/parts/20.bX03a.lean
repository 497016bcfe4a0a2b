set_option maxRecDepth 100000 in
set_option maxHeartbeats 4000000 in
theorem bX3_init_0 {X : zX} {d kc ks : Nat} {w : zW} {Q : Option Value → zW → Prop} (p0 : Nat)
    (h : 0 < d ∧ ((8 = nI 8 ∧ 8 ≤ 100000 ∧ w.length < zBig ∧ 1 ≤ kc ∧ 8 ≤ ks) ∧ (∃ w2, zsF (w ++ [zI 8 (fun _ => 0)]) p0 3 0 (.ref w.length) = some w2 ∧ (Q none w2)))) :
    zRn X d kc ks MX3_init 0 [some (.ref p0)] [] w Q := by
  refine z_aload_n p0 dX3_init_0 rfl rfl ?_
  refine z_objInit g_297 g_127 g_128 dX3_init_1 (Nat.le_of_ble_eq_true rfl) h.1 ?_
  have h := h.2
  refine z_aload_n p0 dX3_init_4 rfl rfl ?_
  refine z_bipush 8 dX3_init_5 rfl ?_
  refine zq_newa (N := 8) g_149 dX3_init_7 h.1 ?_
  have h := h.2
  obtain ⟨w2, e, h⟩ := h
  refine zq_sFf f_X3_9 rfl dX3_init_9 (fun _ => rfl) (fun _ => rfl) e ?_
  exact z_vreturn dX3_init_12 rfl h
theorem eX3_init {X : zX} {d kc ks : Nat} {w : zW} {Q : Option Value → zW → Prop} (p0 : Nat) (h : zRn X d kc ks MX3_init 0 [some (.ref p0)] [] w Q) : zEv X d kc ks MX3_init [.ref p0] w Q :=
  zEv.of (by decide) (Nat.le_of_ble_eq_true rfl) (Or.inr (by simp [Value.category])) h
set_option maxRecDepth 100000 in
set_option maxHeartbeats 4000000 in
theorem bX3_between_0 {X : zX} {d kc ks : Nat} {w : zW} {Q : Option Value → zW → Prop} (p0 : Nat) (p1 : Nat) (p2 : Nat)
    (h : zIs w p1 5 ∧ zCallI X d MX5_size [.ref p1] w (fun x2 w1 => zIs w1 p2 5 ∧ zCallI X d MX5_size [.ref p2] w1 (fun x4 w3 => if x2 = x4 then (∃ r5, zfR w3 p0 3 0 = some r5 ∧ (zCallI X d MX3_extend [.ref p1, .ref p2, .ref r5, .int 0, .int 0] w3 (fun x7 w6 => if x7 = 0 then (Q (some (.int 0)) w6) else (Q (some (.int 1)) w6)))) else (Q (some (.int 0)) w3)))) :
    zRn X d kc ks MX3_between 0 [some (.ref p0), some (.ref p1), some (.ref p2)] [] w Q := by
  refine z_aload_n p1 dX3_between_0 rfl rfl ?_
  refine zq_VI (N := MX5_size) (As := []) m_X3_15 dX3_between_1 rfl rfl (Nat.le_of_ble_eq_true rfl) h (fun x2 w1 h => ?_)
  refine z_aload_n p2 dX3_between_4 rfl rfl ?_
  refine zq_VI (N := MX5_size) (As := []) m_X3_15 dX3_between_5 rfl rfl (Nat.le_of_ble_eq_true rfl) h (fun x4 w3 h => ?_)
  refine z_icmp_ne 29 dX3_between_8 rfl (fun hc => ?_) (fun hc => ?_)
  · rw [if_neg hc] at h
    refine z_iconst 0 dX3_between_29 rfl ?_
    exact z_ireturn .boolean dX3_between_30 rfl rfl h
  · rw [if_pos hc] at h
    refine z_aload_n p1 dX3_between_11 rfl rfl ?_
    refine z_aload_n p2 dX3_between_12 rfl rfl ?_
    refine z_aload_n p0 dX3_between_13 rfl rfl ?_
    obtain ⟨r5, e, h⟩ := h
    refine zq_fR f_X3_9 dX3_between_14 e ?_
    refine z_iconst 0 dX3_between_17 rfl ?_
    refine z_iconst 0 dX3_between_18 rfl ?_
    refine zq_SI (N := MX3_extend) (As := [.ref p1, .ref p2, .ref r5, .int 0, .int 0]) m_X3_21 dX3_between_19 rfl rfl (Nat.le_of_ble_eq_true rfl) h (fun x7 w6 h => ?_)
    refine z_if_eq 29 dX3_between_22 rfl (fun hc => ?_) (fun hc => ?_)
    · rw [if_pos hc] at h
      refine z_iconst 0 dX3_between_29 rfl ?_
      exact z_ireturn .boolean dX3_between_30 rfl rfl h
    · rw [if_neg hc] at h
      refine z_iconst 1 dX3_between_25 rfl ?_
      refine z_goto 30 dX3_between_26 rfl ?_
      exact z_ireturn .boolean dX3_between_30 rfl rfl h
theorem eX3_between {X : zX} {d kc ks : Nat} {w : zW} {Q : Option Value → zW → Prop} (p0 : Nat) (p1 : Nat) (p2 : Nat) (h : zRn X d kc ks MX3_between 0 [some (.ref p0), some (.ref p1), some (.ref p2)] [] w Q) : zEv X d kc ks MX3_between [.ref p0, .ref p1, .ref p2] w Q :=
  zEv.of (by decide) (Nat.le_of_ble_eq_true rfl) (Or.inr (by simp [Value.category])) h
set_option maxRecDepth 100000 in
set_option maxHeartbeats 4000000 in
theorem bX3_extend_0 {X : zX} {d kc ks : Nat} {w : zW} {Q : Option Value → zW → Prop} (p0 : Nat) (p1 : Nat) (p2 : Nat) (a3 : Int32) (a4 : Int32)
    (h : zIs w p0 5 ∧ zCallI X d MX5_has [.ref p0, .int a3] w (fun x2 w1 => if x2 = 0 then (Q (some (.int 1)) w1) else (zRn X d kc ks MX3_extend 13 [some (.ref p0), some (.ref p1), some (.ref p2), some (.int a3), some (.int a4), some (.int 0)] [] w1 Q))) :
    zRn X d kc ks MX3_extend 0 [some (.ref p0), some (.ref p1), some (.ref p2), some (.int a3), some (.int a4), none] [] w Q := by
  refine z_aload_n p0 dX3_extend_0 rfl rfl ?_
  refine z_iload_n a3 dX3_extend_1 rfl rfl ?_
  refine zq_VI (N := MX5_has) (As := [.int a3]) m_X3_32 dX3_extend_2 rfl rfl (Nat.le_of_ble_eq_true rfl) h (fun x2 w1 h => ?_)
  refine z_if_ne 10 dX3_extend_5 rfl (fun hc => ?_) (fun hc => ?_)
  · rw [if_neg hc] at h
    refine z_iconst 0 dX3_extend_10 rfl ?_
    refine z_istore (i := 5) dX3_extend_11 (by decide) rfl ?_
    exact h
  · rw [if_pos hc] at h
    refine z_iconst 1 dX3_extend_8 rfl ?_
    exact z_ireturn .boolean dX3_extend_9 rfl rfl h
set_option maxRecDepth 100000 in
set_option maxHeartbeats 4000000 in
theorem bX3_extend_13 {X : zX} {d kc ks : Nat} {w : zW} {Q : Option Value → zW → Prop} (v0 : Nat) (v1 : Nat) (v2 : Nat) (v3 : Int32) (v4 : Int32) (v5 : Int32)
    (h : zIs w v1 5 ∧ zCallI X d MX5_size [.ref v1] w (fun x2 w1 => if x2 ≤ v5 then (Q (some (.int 0)) w1) else (if ((v4 >>> (v5 &&& 31)) &&& 1) = 0 then (zCallI X d MX3_isName [.ref v0, .ref v1, .ref v2, .int v3, .int v5] w1 (fun x4 w3 => if x4 = 0 then (zRn X d kc ks MX3_extend 70 [some (.ref v0), some (.ref v1), some (.ref v2), some (.int v3), some (.int v4), some (.int v5)] [] w3 Q) else (∃ w5, zsI w3 v2 v3 v5 = some w5 ∧ (zCallI X d MX3_extend [.ref v0, .ref v1, .ref v2, .int (v3 + 1), .int (v4 ||| ((1 : Int32) <<< (v5 &&& 31)))] w5 (fun x7 w6 => if x7 = 0 then (zRn X d kc ks MX3_extend 70 [some (.ref v0), some (.ref v1), some (.ref v2), some (.int v3), some (.int v4), some (.int v5)] [] w6 Q) else (Q (some (.int 1)) w6)))))) else (zRn X d kc ks MX3_extend 70 [some (.ref v0), some (.ref v1), some (.ref v2), some (.int v3), some (.int v4), some (.int v5)] [] w1 Q)))) :
    zRn X d kc ks MX3_extend 13 [some (.ref v0), some (.ref v1), some (.ref v2), some (.int v3), some (.int v4), some (.int v5)] [] w Q := by
  refine z_iload v5 dX3_extend_13 rfl ?_
  refine z_aload_n v1 dX3_extend_15 rfl rfl ?_
  refine zq_VI (N := MX5_size) (As := []) m_X3_15 dX3_extend_16 rfl rfl (Nat.le_of_ble_eq_true rfl) h (fun x2 w1 h => ?_)
  refine z_icmp_ge 76 dX3_extend_19 rfl (fun hc => ?_) (fun hc => ?_)
  · rw [if_pos hc] at h
    refine z_iconst 0 dX3_extend_76 rfl ?_
    exact z_ireturn .boolean dX3_extend_77 rfl rfl h
  · rw [if_neg hc] at h
    refine z_iload v4 dX3_extend_22 rfl ?_
    refine z_iload v5 dX3_extend_24 rfl ?_
    refine z_ishr dX3_extend_26 ?_
    refine z_iconst 1 dX3_extend_27 rfl ?_
    refine z_iand dX3_extend_28 ?_
    refine z_if_ne 70 dX3_extend_29 rfl (fun hc => ?_) (fun hc => ?_)
    · rw [if_neg hc] at h
      exact h
    · rw [if_pos hc] at h
      refine z_aload_n v0 dX3_extend_32 rfl rfl ?_
      refine z_aload_n v1 dX3_extend_33 rfl rfl ?_
      refine z_aload_n v2 dX3_extend_34 rfl rfl ?_
      refine z_iload_n v3 dX3_extend_35 rfl rfl ?_
      refine z_iload v5 dX3_extend_36 rfl ?_
      refine zq_SI (N := MX3_isName) (As := [.ref v0, .ref v1, .ref v2, .int v3, .int v5]) m_X3_25 dX3_extend_38 rfl rfl (Nat.le_of_ble_eq_true rfl) h (fun x4 w3 h => ?_)
      refine z_if_eq 70 dX3_extend_41 rfl (fun hc => ?_) (fun hc => ?_)
      · rw [if_pos hc] at h
        exact h
      · rw [if_neg hc] at h
        refine z_aload_n v2 dX3_extend_44 rfl rfl ?_
        refine z_iload_n v3 dX3_extend_45 rfl rfl ?_
        refine z_iload v5 dX3_extend_46 rfl ?_
        obtain ⟨w5, e, h⟩ := h
        refine zq_sI dX3_extend_48 e ?_
        refine z_aload_n v0 dX3_extend_49 rfl rfl ?_
        refine z_aload_n v1 dX3_extend_50 rfl rfl ?_
        refine z_aload_n v2 dX3_extend_51 rfl rfl ?_
        refine z_iload_n v3 dX3_extend_52 rfl rfl ?_
        refine z_iconst 1 dX3_extend_53 rfl ?_
        refine z_iadd dX3_extend_54 ?_
        refine z_iload v4 dX3_extend_55 rfl ?_
        refine z_iconst 1 dX3_extend_57 rfl ?_
        refine z_iload v5 dX3_extend_58 rfl ?_
        refine z_ishl dX3_extend_60 ?_
        refine z_ior dX3_extend_61 ?_
        refine zq_SI (N := MX3_extend) (As := [.ref v0, .ref v1, .ref v2, .int (v3 + 1), .int (v4 ||| ((1 : Int32) <<< (v5 &&& 31)))]) m_X3_21 dX3_extend_62 rfl rfl (Nat.le_of_ble_eq_true rfl) h (fun x7 w6 h => ?_)
        refine z_if_eq 70 dX3_extend_65 rfl (fun hc => ?_) (fun hc => ?_)
        · rw [if_pos hc] at h
          exact h
        · rw [if_neg hc] at h
          refine z_iconst 1 dX3_extend_68 rfl ?_
          exact z_ireturn .boolean dX3_extend_69 rfl rfl h
set_option maxRecDepth 100000 in
set_option maxHeartbeats 4000000 in
theorem bX3_extend_70 {X : zX} {d kc ks : Nat} {w : zW} {Q : Option Value → zW → Prop} (v0 : Nat) (v1 : Nat) (v2 : Nat) (v3 : Int32) (v4 : Int32) (v5 : Int32)
    (h : zRn X d kc ks MX3_extend 13 [some (.ref v0), some (.ref v1), some (.ref v2), some (.int v3), some (.int v4), some (.int (v5 + 1))] [] w Q) :
    zRn X d kc ks MX3_extend 70 [some (.ref v0), some (.ref v1), some (.ref v2), some (.int v3), some (.int v4), some (.int v5)] [] w Q := by
  refine z_iinc (i := 5) v5 (v5 + 1) dX3_extend_70 rfl rfl (by decide) rfl ?_
  refine z_goto 13 dX3_extend_73 rfl ?_
  exact h
theorem eX3_extend {X : zX} {d kc ks : Nat} {w : zW} {Q : Option Value → zW → Prop} (p0 : Nat) (p1 : Nat) (p2 : Nat) (a3 : Int32) (a4 : Int32) (h : zRn X d kc ks MX3_extend 0 [some (.ref p0), some (.ref p1), some (.ref p2), some (.int a3), some (.int a4), none] [] w Q) : zEv X d kc ks MX3_extend [.ref p0, .ref p1, .ref p2, .int a3, .int a4] w Q :=
  zEv.of (by decide) (Nat.le_of_ble_eq_true rfl) (Or.inr (by simp [Value.category])) h
set_option maxRecDepth 100000 in
set_option maxHeartbeats 4000000 in
theorem bX3_isName_0 {X : zX} {d kc ks : Nat} {w : zW} {Q : Option Value → zW → Prop} (p0 : Nat) (p1 : Nat) (p2 : Nat) (a3 : Int32) (a4 : Int32)
    (h : zIs w p0 5 ∧ zCallI X d MX5_belowOf [.ref p0, .int a3] w (fun x2 w1 => zCallI X d MJ6_bitCount_0f7a4 [.int x2] w1 (fun x4 w3 => zIs w3 p1 5 ∧ zCallI X d MX5_belowOf [.ref p1, .int a4] w3 (fun x6 w5 => zCallI X d MJ6_bitCount_0f7a4 [.int x6] w5 (fun x8 w7 => if x4 = x8 then (zIs w7 p0 5 ∧ zCallI X d MX5_aboveOf [.ref p0, .int a3] w7 (fun x10 w9 => zCallI X d MJ6_bitCount_0f7a4 [.int x10] w9 (fun x12 w11 => zIs w11 p1 5 ∧ zCallI X d MX5_aboveOf [.ref p1, .int a4] w11 (fun x14 w13 => zCallI X d MJ6_bitCount_0f7a4 [.int x14] w13 (fun x16 w15 => if x12 = x16 then (zRn X d kc ks MX3_isName 45 [some (.ref p0), some (.ref p1), some (.ref p2), some (.int a3), some (.int a4), some (.int 0)] [] w15 Q) else (Q (some (.int 0)) w15)))))) else (Q (some (.int 0)) w7)))))) :
    zRn X d kc ks MX3_isName 0 [some (.ref p0), some (.ref p1), some (.ref p2), some (.int a3), some (.int a4), none] [] w Q := by
  refine z_aload_n p0 dX3_isName_0 rfl rfl ?_
  refine z_iload_n a3 dX3_isName_1 rfl rfl ?_
  refine zq_VI (N := MX5_belowOf) (As := [.int a3]) m_X3_36 dX3_isName_2 rfl rfl (Nat.le_of_ble_eq_true rfl) h (fun x2 w1 h => ?_)
  refine zq_SI (N := MJ6_bitCount_0f7a4) (As := [.int x2]) m_X3_40 dX3_isName_5 rfl rfl (Nat.le_of_ble_eq_true rfl) h (fun x4 w3 h => ?_)
  refine z_aload_n p1 dX3_isName_8 rfl rfl ?_
  refine z_iload a4 dX3_isName_9 rfl ?_
  refine zq_VI (N := MX5_belowOf) (As := [.int a4]) m_X3_36 dX3_isName_11 rfl rfl (Nat.le_of_ble_eq_true rfl) h (fun x6 w5 h => ?_)
  refine zq_SI (N := MJ6_bitCount_0f7a4) (As := [.int x6]) m_X3_40 dX3_isName_14 rfl rfl (Nat.le_of_ble_eq_true rfl) h (fun x8 w7 h => ?_)
  refine z_icmp_ne 40 dX3_isName_17 rfl (fun hc => ?_) (fun hc => ?_)
  · rw [if_neg hc] at h
    refine z_iconst 0 dX3_isName_40 rfl ?_
    exact z_ireturn .boolean dX3_isName_41 rfl rfl h
  · rw [if_pos hc] at h
    refine z_aload_n p0 dX3_isName_20 rfl rfl ?_
    refine z_iload_n a3 dX3_isName_21 rfl rfl ?_
    refine zq_VI (N := MX5_aboveOf) (As := [.int a3]) m_X3_45 dX3_isName_22 rfl rfl (Nat.le_of_ble_eq_true rfl) h (fun x10 w9 h => ?_)
    refine zq_SI (N := MJ6_bitCount_0f7a4) (As := [.int x10]) m_X3_40 dX3_isName_25 rfl rfl (Nat.le_of_ble_eq_true rfl) h (fun x12 w11 h => ?_)
    refine z_aload_n p1 dX3_isName_28 rfl rfl ?_
    refine z_iload a4 dX3_isName_29 rfl ?_
    refine zq_VI (N := MX5_aboveOf) (As := [.int a4]) m_X3_45 dX3_isName_31 rfl rfl (Nat.le_of_ble_eq_true rfl) h (fun x14 w13 h => ?_)
    refine zq_SI (N := MJ6_bitCount_0f7a4) (As := [.int x14]) m_X3_40 dX3_isName_34 rfl rfl (Nat.le_of_ble_eq_true rfl) h (fun x16 w15 h => ?_)
    refine z_icmp_eq 42 dX3_isName_37 rfl (fun hc => ?_) (fun hc => ?_)
    · rw [if_pos hc] at h
      refine z_iconst 0 dX3_isName_42 rfl ?_
      refine z_istore (i := 5) dX3_isName_43 (by decide) rfl ?_
      exact h
    · rw [if_neg hc] at h
      refine z_iconst 0 dX3_isName_40 rfl ?_
      exact z_ireturn .boolean dX3_isName_41 rfl rfl h
set_option maxRecDepth 100000 in
set_option maxHeartbeats 4000000 in
theorem bX3_isName_45 {X : zX} {d kc ks : Nat} {w : zW} {Q : Option Value → zW → Prop} (v0 : Nat) (v1 : Nat) (v2 : Nat) (v3 : Int32) (v4 : Int32) (v5 : Int32)
    (h : if v3 ≤ v5 then (Q (some (.int 1)) w) else (zIs w v0 5 ∧ zCallI X d MX5_under [.ref v0, .int v5, .int v3] w (fun x2 w1 => ∃ x3, zaI w1 v2 v5 = some x3 ∧ (zIs w1 v1 5 ∧ zCallI X d MX5_under [.ref v1, .int x3, .int v4] w1 (fun x5 w4 => if x2 = x5 then (zIs w4 v0 5 ∧ zCallI X d MX5_under [.ref v0, .int v3, .int v5] w4 (fun x7 w6 => ∃ x8, zaI w6 v2 v5 = some x8 ∧ (zIs w6 v1 5 ∧ zCallI X d MX5_under [.ref v1, .int v4, .int x8] w6 (fun x10 w9 => if x7 = x10 then (zRn X d kc ks MX3_isName 45 [some (.ref v0), some (.ref v1), some (.ref v2), some (.int v3), some (.int v4), some (.int (v5 + 1))] [] w9 Q) else (Q (some (.int 0)) w9))))) else (Q (some (.int 0)) w4)))))) :
    zRn X d kc ks MX3_isName 45 [some (.ref v0), some (.ref v1), some (.ref v2), some (.int v3), some (.int v4), some (.int v5)] [] w Q := by
  refine z_iload v5 dX3_isName_45 rfl ?_
  refine z_iload_n v3 dX3_isName_47 rfl rfl ?_
  refine z_icmp_ge 99 dX3_isName_48 rfl (fun hc => ?_) (fun hc => ?_)
  · rw [if_pos hc] at h
    refine z_iconst 1 dX3_isName_99 rfl ?_
    exact z_ireturn .boolean dX3_isName_100 rfl rfl h
  · rw [if_neg hc] at h
    refine z_aload_n v0 dX3_isName_51 rfl rfl ?_
    refine z_iload v5 dX3_isName_52 rfl ?_
    refine z_iload_n v3 dX3_isName_54 rfl rfl ?_
    refine zq_VI (N := MX5_under) (As := [.int v5, .int v3]) m_X3_48 dX3_isName_55 rfl rfl (Nat.le_of_ble_eq_true rfl) h (fun x2 w1 h => ?_)
    refine z_aload_n v1 dX3_isName_58 rfl rfl ?_
    refine z_aload_n v2 dX3_isName_59 rfl rfl ?_
    refine z_iload v5 dX3_isName_60 rfl ?_
    obtain ⟨x3, e, h⟩ := h
    refine zq_aI dX3_isName_62 e ?_
    refine z_iload v4 dX3_isName_63 rfl ?_
    refine zq_VI (N := MX5_under) (As := [.int x3, .int v4]) m_X3_48 dX3_isName_65 rfl rfl (Nat.le_of_ble_eq_true rfl) h (fun x5 w4 h => ?_)
    refine z_icmp_ne 91 dX3_isName_68 rfl (fun hc => ?_) (fun hc => ?_)
    · rw [if_neg hc] at h
      refine z_iconst 0 dX3_isName_91 rfl ?_
      exact z_ireturn .boolean dX3_isName_92 rfl rfl h
    · rw [if_pos hc] at h
      refine z_aload_n v0 dX3_isName_71 rfl rfl ?_
      refine z_iload_n v3 dX3_isName_72 rfl rfl ?_
      refine z_iload v5 dX3_isName_73 rfl ?_
      refine zq_VI (N := MX5_under) (As := [.int v3, .int v5]) m_X3_48 dX3_isName_75 rfl rfl (Nat.le_of_ble_eq_true rfl) h (fun x7 w6 h => ?_)
      refine z_aload_n v1 dX3_isName_78 rfl rfl ?_
      refine z_iload v4 dX3_isName_79 rfl ?_
      refine z_aload_n v2 dX3_isName_81 rfl rfl ?_
      refine z_iload v5 dX3_isName_82 rfl ?_
      obtain ⟨x8, e, h⟩ := h
      refine zq_aI dX3_isName_84 e ?_
      refine zq_VI (N := MX5_under) (As := [.int v4, .int x8]) m_X3_48 dX3_isName_85 rfl rfl (Nat.le_of_ble_eq_true rfl) h (fun x10 w9 h => ?_)
      refine z_icmp_eq 93 dX3_isName_88 rfl (fun hc => ?_) (fun hc => ?_)
      · rw [if_pos hc] at h
        refine z_iinc (i := 5) v5 (v5 + 1) dX3_isName_93 rfl rfl (by decide) rfl ?_
        refine z_goto 45 dX3_isName_96 rfl ?_
        exact h
      · rw [if_neg hc] at h
        refine z_iconst 0 dX3_isName_91 rfl ?_
        exact z_ireturn .boolean dX3_isName_92 rfl rfl h
theorem eX3_isName {X : zX} {d kc ks : Nat} {w : zW} {Q : Option Value → zW → Prop} (p0 : Nat) (p1 : Nat) (p2 : Nat) (a3 : Int32) (a4 : Int32) (h : zRn X d kc ks MX3_isName 0 [some (.ref p0), some (.ref p1), some (.ref p2), some (.int a3), some (.int a4), none] [] w Q) : zEv X d kc ks MX3_isName [.ref p0, .ref p1, .ref p2, .int a3, .int a4] w Q :=
  zEv.of (by decide) (Nat.le_of_ble_eq_true rfl) (Or.inr (by simp [Value.category])) h
set_option maxRecDepth 100000 in
set_option maxHeartbeats 4000000 in
theorem bX3_waysOf_0 {X : zX} {d kc ks : Nat} {w : zW} {Q : Option Value → zW → Prop} (p0 : Nat) (p1 : Nat)
    (h : zRn X d kc ks MX3_waysOf 7 [some (.ref p0), some (.ref p1), some (.int 1), some (.int 0), some (.int 0), none, none] [] w Q) :
    zRn X d kc ks MX3_waysOf 0 [some (.ref p0), some (.ref p1), none, none, none, none, none] [] w Q := by
  refine z_iconst 1 dX3_waysOf_0 rfl ?_
  refine z_istore_n (i := 2) dX3_waysOf_1 rfl (by decide) rfl ?_
  refine z_iconst 0 dX3_waysOf_2 rfl ?_
  refine z_istore_n (i := 3) dX3_waysOf_3 rfl (by decide) rfl ?_
  refine z_iconst 0 dX3_waysOf_4 rfl ?_
  refine z_istore (i := 4) dX3_waysOf_5 (by decide) rfl ?_
  exact h
set_option maxRecDepth 100000 in
set_option maxHeartbeats 4000000 in
theorem bX3_waysOf_7 {X : zX} {d kc ks : Nat} {w : zW} {Q : Option Value → zW → Prop} (v0 : Nat) (v1 : Nat) (v2 : Int32) (v3 : Int32) (v4 : Int32)
    (h : zIs w v1 5 ∧ zCallI X d MX5_size [.ref v1] w (fun x2 w1 => if x2 ≤ v4 then (Q (some (.int v2)) w1) else (zRn X d kc ks MX3_waysOf 23 [some (.ref v0), some (.ref v1), some (.int v2), some (.int v3), some (.int v4), some (.int 0), some (.int v4)] [] w1 Q))) :
    zRn X d kc ks MX3_waysOf 7 [some (.ref v0), some (.ref v1), some (.int v2), some (.int v3), some (.int v4), none, none] [] w Q := by
  refine z_iload v4 dX3_waysOf_7 rfl ?_
  refine z_aload_n v1 dX3_waysOf_9 rfl rfl ?_
  refine zq_VI (N := MX5_size) (As := []) m_X3_15 dX3_waysOf_10 rfl rfl (Nat.le_of_ble_eq_true rfl) h (fun x2 w1 h => ?_)
  refine z_icmp_ge 117 dX3_waysOf_13 rfl (fun hc => ?_) (fun hc => ?_)
  · rw [if_pos hc] at h
    refine z_iload_n v2 dX3_waysOf_117 rfl rfl ?_
    exact z_ireturn .int dX3_waysOf_118 rfl rfl h
  · rw [if_neg hc] at h
    refine z_iconst 0 dX3_waysOf_16 rfl ?_
    refine z_istore (i := 5) dX3_waysOf_17 (by decide) rfl ?_
    refine z_iload v4 dX3_waysOf_19 rfl ?_
    refine z_istore (i := 6) dX3_waysOf_21 (by decide) rfl ?_
    exact h
set_option maxRecDepth 100000 in
set_option maxHeartbeats 4000000 in
theorem bX3_waysOf_23 {X : zX} {d kc ks : Nat} {w : zW} {Q : Option Value → zW → Prop} (v0 : Nat) (v1 : Nat) (v2 : Int32) (v3 : Int32) (v4 : Int32) (v5 : Int32) (v6 : Int32)
    (h : zIs w v1 5 ∧ zCallI X d MX5_size [.ref v1] w (fun x2 w1 => if x2 ≤ v6 then (∃ r3, zfR w1 v0 3 0 = some r3 ∧ (∃ w4, zsI w1 r3 v4 v4 = some w4 ∧ (zRn X d kc ks MX3_waysOf 7 [some (.ref v0), some (.ref v1), some (.int (v2 * v5)), some (.int (v3 ||| ((1 : Int32) <<< (v4 &&& 31)))), some (.int (v4 + 1)), none, none] [] w4 Q))) else (∃ r5, zfR w1 v0 3 0 = some r5 ∧ (zCallI X d MX3_isName [.ref v1, .ref v1, .ref r5, .int v4, .int v6] w1 (fun x7 w6 => if x7 = 0 then (zRn X d kc ks MX3_waysOf 84 [some (.ref v0), some (.ref v1), some (.int v2), some (.int v3), some (.int v4), some (.int v5), some (.int v6)] [] w6 Q) else (∃ r8, zfR w6 v0 3 0 = some r8 ∧ (∃ w9, zsI w6 r8 v4 v6 = some w9 ∧ (∃ r10, zfR w9 v0 3 0 = some r10 ∧ (zCallI X d MX3_extend [.ref v1, .ref v1, .ref r10, .int (v4 + 1), .int (v3 ||| ((1 : Int32) <<< (v6 &&& 31)))] w9 (fun x12 w11 => zCallI X d MX11_bit [.int x12] w11 (fun x14 w13 => zRn X d kc ks MX3_waysOf 84 [some (.ref v0), some (.ref v1), some (.int v2), some (.int v3), some (.int v4), some (.int (v5 + x14)), some (.int v6)] [] w13 Q))))))))))) :
    zRn X d kc ks MX3_waysOf 23 [some (.ref v0), some (.ref v1), some (.int v2), some (.int v3), some (.int v4), some (.int v5), some (.int v6)] [] w Q := by
  refine z_iload v6 dX3_waysOf_23 rfl ?_
  refine z_aload_n v1 dX3_waysOf_25 rfl rfl ?_
  refine zq_VI (N := MX5_size) (As := []) m_X3_15 dX3_waysOf_26 rfl rfl (Nat.le_of_ble_eq_true rfl) h (fun x2 w1 h => ?_)
  refine z_icmp_ge 90 dX3_waysOf_29 rfl (fun hc => ?_) (fun hc => ?_)
  · rw [if_pos hc] at h
    refine z_aload_n v0 dX3_waysOf_90 rfl rfl ?_
    obtain ⟨r3, e, h⟩ := h
    refine zq_fR f_X3_9 dX3_waysOf_91 e ?_
    refine z_iload v4 dX3_waysOf_94 rfl ?_
    refine z_iload v4 dX3_waysOf_96 rfl ?_
    obtain ⟨w4, e, h⟩ := h
    refine zq_sI dX3_waysOf_98 e ?_
    refine z_iload_n v3 dX3_waysOf_99 rfl rfl ?_
    refine z_iconst 1 dX3_waysOf_100 rfl ?_
    refine z_iload v4 dX3_waysOf_101 rfl ?_
    refine z_ishl dX3_waysOf_103 ?_
    refine z_ior dX3_waysOf_104 ?_
    refine z_istore_n (i := 3) dX3_waysOf_105 rfl (by decide) rfl ?_
    refine z_iload_n v2 dX3_waysOf_106 rfl rfl ?_
    refine z_iload v5 dX3_waysOf_107 rfl ?_
    refine z_imul dX3_waysOf_109 ?_
    refine z_istore_n (i := 2) dX3_waysOf_110 rfl (by decide) rfl ?_
    refine z_iinc (i := 4) v4 (v4 + 1) dX3_waysOf_111 rfl rfl (by decide) rfl ?_
    refine z_goto 7 dX3_waysOf_114 rfl ?_
    exact zRn.weak h (zLe_of [true, true, true, true, true, false, false] (And.intro rfl (And.intro rfl (And.intro rfl (And.intro rfl (And.intro rfl (And.intro rfl (And.intro rfl (trivial)))))))))
  · rw [if_neg hc] at h
    refine z_aload_n v1 dX3_waysOf_32 rfl rfl ?_
    refine z_aload_n v1 dX3_waysOf_33 rfl rfl ?_
    refine z_aload_n v0 dX3_waysOf_34 rfl rfl ?_
    obtain ⟨r5, e, h⟩ := h
    refine zq_fR f_X3_9 dX3_waysOf_35 e ?_
    refine z_iload v4 dX3_waysOf_38 rfl ?_
    refine z_iload v6 dX3_waysOf_40 rfl ?_
    refine zq_SI (N := MX3_isName) (As := [.ref v1, .ref v1, .ref r5, .int v4, .int v6]) m_X3_25 dX3_waysOf_42 rfl rfl (Nat.le_of_ble_eq_true rfl) h (fun x7 w6 h => ?_)
    refine z_if_eq 84 dX3_waysOf_45 rfl (fun hc => ?_) (fun hc => ?_)
    · rw [if_pos hc] at h
      exact h
    · rw [if_neg hc] at h
      refine z_aload_n v0 dX3_waysOf_48 rfl rfl ?_
      obtain ⟨r8, e, h⟩ := h
      refine zq_fR f_X3_9 dX3_waysOf_49 e ?_
      refine z_iload v4 dX3_waysOf_52 rfl ?_
      refine z_iload v6 dX3_waysOf_54 rfl ?_
      obtain ⟨w9, e, h⟩ := h
      refine zq_sI dX3_waysOf_56 e ?_
      refine z_iload v5 dX3_waysOf_57 rfl ?_
      refine z_aload_n v1 dX3_waysOf_59 rfl rfl ?_
      refine z_aload_n v1 dX3_waysOf_60 rfl rfl ?_
      refine z_aload_n v0 dX3_waysOf_61 rfl rfl ?_
      obtain ⟨r10, e, h⟩ := h
      refine zq_fR f_X3_9 dX3_waysOf_62 e ?_
      refine z_iload v4 dX3_waysOf_65 rfl ?_
      refine z_iconst 1 dX3_waysOf_67 rfl ?_
      refine z_iadd dX3_waysOf_68 ?_
      refine z_iload_n v3 dX3_waysOf_69 rfl rfl ?_
      refine z_iconst 1 dX3_waysOf_70 rfl ?_
      refine z_iload v6 dX3_waysOf_71 rfl ?_
      refine z_ishl dX3_waysOf_73 ?_
      refine z_ior dX3_waysOf_74 ?_
      refine zq_SI (N := MX3_extend) (As := [.ref v1, .ref v1, .ref r10, .int (v4 + 1), .int (v3 ||| ((1 : Int32) <<< (v6 &&& 31)))]) m_X3_21 dX3_waysOf_75 rfl rfl (Nat.le_of_ble_eq_true rfl) h (fun x12 w11 h => ?_)
      refine zq_SNI (N := MX11_bit) (As := [.int x12]) m_X3_28 dX3_waysOf_78 rfl rfl (Nat.le_of_ble_eq_true rfl) h (fun x14 w13 h => ?_)
      refine z_iadd dX3_waysOf_81 ?_
      refine z_istore (i := 5) dX3_waysOf_82 (by decide) rfl ?_
      exact h
set_option maxRecDepth 100000 in
set_option maxHeartbeats 4000000 in
theorem bX3_waysOf_84 {X : zX} {d kc ks : Nat} {w : zW} {Q : Option Value → zW → Prop} (v0 : Nat) (v1 : Nat) (v2 : Int32) (v3 : Int32) (v4 : Int32) (v5 : Int32) (v6 : Int32)
    (h : zRn X d kc ks MX3_waysOf 23 [some (.ref v0), some (.ref v1), some (.int v2), some (.int v3), some (.int v4), some (.int v5), some (.int (v6 + 1))] [] w Q) :
    zRn X d kc ks MX3_waysOf 84 [some (.ref v0), some (.ref v1), some (.int v2), some (.int v3), some (.int v4), some (.int v5), some (.int v6)] [] w Q := by
  refine z_iinc (i := 6) v6 (v6 + 1) dX3_waysOf_84 rfl rfl (by decide) rfl ?_
  refine z_goto 23 dX3_waysOf_87 rfl ?_
  exact h
theorem eX3_waysOf {X : zX} {d kc ks : Nat} {w : zW} {Q : Option Value → zW → Prop} (p0 : Nat) (p1 : Nat) (h : zRn X d kc ks MX3_waysOf 0 [some (.ref p0), some (.ref p1), none, none, none, none, none] [] w Q) : zEv X d kc ks MX3_waysOf [.ref p0, .ref p1] w Q :=
  zEv.of (by decide) (Nat.le_of_ble_eq_true rfl) (Or.inr (by simp [Value.category])) h
