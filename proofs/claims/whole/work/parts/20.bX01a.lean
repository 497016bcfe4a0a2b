set_option maxRecDepth 100000 in
set_option maxHeartbeats 4000000 in
theorem bX1_init_0 {X : zX} {d kc ks : Nat} {w : zW} {Q : Option Value → zW → Prop} (p0 : Nat)
    (h : 0 < d ∧ ((8 = nI 8 ∧ 8 ≤ 100000 ∧ w.length < zBig ∧ 1 ≤ kc ∧ 8 ≤ ks) ∧ (∃ w2, zsF (w ++ [zI 8 (fun _ => 0)]) p0 1 0 (.ref w.length) = some w2 ∧ ((8 = nI 8 ∧ 8 ≤ 100000 ∧ w2.length < zBig ∧ 1 ≤ (kc - 1) ∧ 8 ≤ (ks - 8)) ∧ (∃ w4, zsF (w2 ++ [zI 8 (fun _ => 0)]) p0 1 1 (.ref w2.length) = some w4 ∧ ((8 = nI 8 ∧ 8 ≤ 100000 ∧ w4.length < zBig ∧ 1 ≤ ((kc - 1) - 1) ∧ 8 ≤ ((ks - 8) - 8)) ∧ (∃ w6, zsF (w4 ++ [zI 8 (fun _ => 0)]) p0 1 2 (.ref w4.length) = some w6 ∧ (Q none w6)))))))) :
    zRn X d kc ks MX1_init 0 [some (.ref p0)] [] w Q := by
  refine z_aload_n p0 dX1_init_0 rfl rfl ?_
  refine z_objInit g_230 g_127 g_128 dX1_init_1 (Nat.le_of_ble_eq_true rfl) h.1 ?_
  have h := h.2
  refine z_aload_n p0 dX1_init_4 rfl rfl ?_
  refine z_bipush 8 dX1_init_5 rfl ?_
  refine zq_newa (N := 8) g_149 dX1_init_7 h.1 ?_
  have h := h.2
  obtain ⟨w2, e, h⟩ := h
  refine zq_sFf f_X1_9 rfl dX1_init_9 (fun _ => rfl) (fun _ => rfl) e ?_
  refine z_aload_n p0 dX1_init_12 rfl rfl ?_
  refine z_bipush 8 dX1_init_13 rfl ?_
  refine zq_newa (N := 8) g_149 dX1_init_15 h.1 ?_
  have h := h.2
  obtain ⟨w4, e, h⟩ := h
  refine zq_sFf f_X1_15 rfl dX1_init_17 (fun _ => rfl) (fun _ => rfl) e ?_
  refine z_aload_n p0 dX1_init_20 rfl rfl ?_
  refine z_bipush 8 dX1_init_21 rfl ?_
  refine zq_newa (N := 8) g_149 dX1_init_23 h.1 ?_
  have h := h.2
  obtain ⟨w6, e, h⟩ := h
  refine zq_sFf f_X1_18 rfl dX1_init_25 (fun _ => rfl) (fun _ => rfl) e ?_
  exact z_vreturn dX1_init_28 rfl h
theorem eX1_init {X : zX} {d kc ks : Nat} {w : zW} {Q : Option Value → zW → Prop} (p0 : Nat) (h : zRn X d kc ks MX1_init 0 [some (.ref p0)] [] w Q) : zEv X d kc ks MX1_init [.ref p0] w Q :=
  zEv.of (by decide) (Nat.le_of_ble_eq_true rfl) (Or.inr (by simp [Value.category])) h
set_option maxRecDepth 100000 in
set_option maxHeartbeats 4000000 in
theorem bX1_height_0 {X : zX} {d kc ks : Nat} {w : zW} {Q : Option Value → zW → Prop} (p0 : Nat) (p1 : Nat)
    (h : zIs w p0 1 ∧ zCallV X d MX1_measure [.ref p0, .ref p1, .int 1] w (fun w1 => zRn X d kc ks MX1_height 10 [some (.ref p0), some (.ref p1), some (.int 0), some (.int 0)] [] w1 Q)) :
    zRn X d kc ks MX1_height 0 [some (.ref p0), some (.ref p1), none, none] [] w Q := by
  refine z_aload_n p0 dX1_height_0 rfl rfl ?_
  refine z_aload_n p1 dX1_height_1 rfl rfl ?_
  refine z_iconst 1 dX1_height_2 rfl ?_
  refine zq_VV (N := MX1_measure) (As := [.ref p1, .int 1]) m_X1_21 dX1_height_3 rfl rfl (Nat.le_of_ble_eq_true rfl) h (fun w1 h => ?_)
  refine z_iconst 0 dX1_height_6 rfl ?_
  refine z_istore_n (i := 2) dX1_height_7 rfl (by decide) rfl ?_
  refine z_iconst 0 dX1_height_8 rfl ?_
  refine z_istore_n (i := 3) dX1_height_9 rfl (by decide) rfl ?_
  exact h
set_option maxRecDepth 100000 in
set_option maxHeartbeats 4000000 in
theorem bX1_height_10 {X : zX} {d kc ks : Nat} {w : zW} {Q : Option Value → zW → Prop} (v0 : Nat) (v1 : Nat) (v2 : Int32) (v3 : Int32)
    (h : zIs w v1 5 ∧ zCallI X d MX5_size [.ref v1] w (fun x2 w1 => if x2 ≤ v3 then (Q (some (.int v2)) w1) else (∃ r3, zfR w1 v0 1 0 = some r3 ∧ (∃ x4, zaI w1 r3 v3 = some x4 ∧ (0 < d ∧ (zRn X d kc ks MX1_height 10 [some (.ref v0), some (.ref v1), some (.int (if v2 < x4 then x4 else v2)), some (.int (v3 + 1))] [] w1 Q)))))) :
    zRn X d kc ks MX1_height 10 [some (.ref v0), some (.ref v1), some (.int v2), some (.int v3)] [] w Q := by
  refine z_iload_n v3 dX1_height_10 rfl rfl ?_
  refine z_aload_n v1 dX1_height_11 rfl rfl ?_
  refine zq_VI (N := MX5_size) (As := []) m_X1_31 dX1_height_12 rfl rfl (Nat.le_of_ble_eq_true rfl) h (fun x2 w1 h => ?_)
  refine z_icmp_ge 35 dX1_height_15 rfl (fun hc => ?_) (fun hc => ?_)
  · rw [if_pos hc] at h
    refine z_iload_n v2 dX1_height_35 rfl rfl ?_
    exact z_ireturn .int dX1_height_36 rfl rfl h
  · rw [if_neg hc] at h
    refine z_iload_n v2 dX1_height_18 rfl rfl ?_
    refine z_aload_n v0 dX1_height_19 rfl rfl ?_
    obtain ⟨r3, e, h⟩ := h
    refine zq_fR f_X1_9 dX1_height_20 e ?_
    refine z_iload_n v3 dX1_height_23 rfl rfl ?_
    obtain ⟨x4, e, h⟩ := h
    refine zq_aI dX1_height_24 e ?_
    refine z_mmax g_646 g_191 g_106 g_192 dX1_height_25 (Nat.le_of_ble_eq_true rfl) h.1 ?_
    have h := h.2
    refine z_istore_n (i := 2) dX1_height_28 rfl (by decide) rfl ?_
    refine z_iinc (i := 3) v3 (v3 + 1) dX1_height_29 rfl rfl (by decide) rfl ?_
    refine z_goto 10 dX1_height_32 rfl ?_
    exact h
theorem eX1_height {X : zX} {d kc ks : Nat} {w : zW} {Q : Option Value → zW → Prop} (p0 : Nat) (p1 : Nat) (h : zRn X d kc ks MX1_height 0 [some (.ref p0), some (.ref p1), none, none] [] w Q) : zEv X d kc ks MX1_height [.ref p0, .ref p1] w Q :=
  zEv.of (by decide) (Nat.le_of_ble_eq_true rfl) (Or.inr (by simp [Value.category])) h
set_option maxRecDepth 100000 in
set_option maxHeartbeats 4000000 in
theorem bX1_measure_0 {X : zX} {d kc ks : Nat} {w : zW} {Q : Option Value → zW → Prop} (p0 : Nat) (p1 : Nat) (a2 : Int32)
    (h : zRn X d kc ks MX1_measure 2 [some (.ref p0), some (.ref p1), some (.int a2), some (.int 0), none] [] w Q) :
    zRn X d kc ks MX1_measure 0 [some (.ref p0), some (.ref p1), some (.int a2), none, none] [] w Q := by
  refine z_iconst 0 dX1_measure_0 rfl ?_
  refine z_istore_n (i := 3) dX1_measure_1 rfl (by decide) rfl ?_
  exact h
set_option maxRecDepth 100000 in
set_option maxHeartbeats 4000000 in
theorem bX1_measure_2 {X : zX} {d kc ks : Nat} {w : zW} {Q : Option Value → zW → Prop} (v0 : Nat) (v1 : Nat) (v2 : Int32) (v3 : Int32)
    (h : if 8 ≤ v3 then (zRn X d kc ks MX1_measure 23 [some (.ref v0), some (.ref v1), some (.int v2), some (.int 1), none] [] w Q) else (∃ r1, zfR w v0 1 0 = some r1 ∧ (∃ w2, zsI w r1 v3 1 = some w2 ∧ (zRn X d kc ks MX1_measure 2 [some (.ref v0), some (.ref v1), some (.int v2), some (.int (v3 + 1)), none] [] w2 Q)))) :
    zRn X d kc ks MX1_measure 2 [some (.ref v0), some (.ref v1), some (.int v2), some (.int v3), none] [] w Q := by
  refine z_iload_n v3 dX1_measure_2 rfl rfl ?_
  refine z_bipush 8 dX1_measure_3 rfl ?_
  refine z_icmp_ge 21 dX1_measure_5 rfl (fun hc => ?_) (fun hc => ?_)
  · rw [if_pos hc] at h
    refine z_iconst 1 dX1_measure_21 rfl ?_
    refine z_istore_n (i := 3) dX1_measure_22 rfl (by decide) rfl ?_
    exact h
  · rw [if_neg hc] at h
    refine z_aload_n v0 dX1_measure_8 rfl rfl ?_
    obtain ⟨r1, e, h⟩ := h
    refine zq_fR f_X1_9 dX1_measure_9 e ?_
    refine z_iload_n v3 dX1_measure_12 rfl rfl ?_
    refine z_iconst 1 dX1_measure_13 rfl ?_
    obtain ⟨w2, e, h⟩ := h
    refine zq_sI dX1_measure_14 e ?_
    refine z_iinc (i := 3) v3 (v3 + 1) dX1_measure_15 rfl rfl (by decide) rfl ?_
    refine z_goto 2 dX1_measure_18 rfl ?_
    exact h
set_option maxRecDepth 100000 in
set_option maxHeartbeats 4000000 in
theorem bX1_measure_23 {X : zX} {d kc ks : Nat} {w : zW} {Q : Option Value → zW → Prop} (v0 : Nat) (v1 : Nat) (v2 : Int32) (v3 : Int32)
    (h : zIs w v1 5 ∧ zCallI X d MX5_size [.ref v1] w (fun x2 w1 => if x2 ≤ v3 then (Q none w1) else (zRn X d kc ks MX1_measure 34 [some (.ref v0), some (.ref v1), some (.int v2), some (.int v3), some (.int 0)] [] w1 Q))) :
    zRn X d kc ks MX1_measure 23 [some (.ref v0), some (.ref v1), some (.int v2), some (.int v3), none] [] w Q := by
  refine z_iload_n v3 dX1_measure_23 rfl rfl ?_
  refine z_aload_n v1 dX1_measure_24 rfl rfl ?_
  refine zq_VI (N := MX5_size) (As := []) m_X1_31 dX1_measure_25 rfl rfl (Nat.le_of_ble_eq_true rfl) h (fun x2 w1 h => ?_)
  refine z_icmp_ge 88 dX1_measure_28 rfl (fun hc => ?_) (fun hc => ?_)
  · rw [if_pos hc] at h
    exact z_vreturn dX1_measure_88 rfl h
  · rw [if_neg hc] at h
    refine z_iconst 0 dX1_measure_31 rfl ?_
    refine z_istore (i := 4) dX1_measure_32 (by decide) rfl ?_
    exact h
set_option maxRecDepth 100000 in
set_option maxHeartbeats 4000000 in
theorem bX1_measure_34 {X : zX} {d kc ks : Nat} {w : zW} {Q : Option Value → zW → Prop} (v0 : Nat) (v1 : Nat) (v2 : Int32) (v3 : Int32) (v4 : Int32)
    (h : zIs w v1 5 ∧ zCallI X d MX5_size [.ref v1] w (fun x2 w1 => if x2 ≤ v4 then (zRn X d kc ks MX1_measure 23 [some (.ref v0), some (.ref v1), some (.int v2), some (.int (v3 + 1)), none] [] w1 Q) else (∃ r3, zfR w1 v0 1 0 = some r3 ∧ (if v2 = 0 then (zIs w1 v1 5 ∧ zCallI X d MX5_belowOf [.ref v1, .int v4] w1 (fun x5 w4 => zRn X d kc ks MX1_measure 71 [some (.ref v0), some (.ref v1), some (.int v2), some (.int v3), some (.int v4)] [.int x5, .ref v1, .ref v0, .int 1, .int v4, .ref r3] w4 Q)) else (zIs w1 v1 5 ∧ zCallI X d MX5_aboveOf [.ref v1, .int v4] w1 (fun x7 w6 => zRn X d kc ks MX1_measure 71 [some (.ref v0), some (.ref v1), some (.int v2), some (.int v3), some (.int v4)] [.int x7, .ref v1, .ref v0, .int 1, .int v4, .ref r3] w6 Q)))))) :
    zRn X d kc ks MX1_measure 34 [some (.ref v0), some (.ref v1), some (.int v2), some (.int v3), some (.int v4)] [] w Q := by
  refine z_iload v4 dX1_measure_34 rfl ?_
  refine z_aload_n v1 dX1_measure_36 rfl rfl ?_
  refine zq_VI (N := MX5_size) (As := []) m_X1_31 dX1_measure_37 rfl rfl (Nat.le_of_ble_eq_true rfl) h (fun x2 w1 h => ?_)
  refine z_icmp_ge 82 dX1_measure_40 rfl (fun hc => ?_) (fun hc => ?_)
  · rw [if_pos hc] at h
    refine z_iinc (i := 3) v3 (v3 + 1) dX1_measure_82 rfl rfl (by decide) rfl ?_
    refine z_goto 23 dX1_measure_85 rfl ?_
    exact zRn.weak h (zLe_of [true, true, true, true, false] (And.intro rfl (And.intro rfl (And.intro rfl (And.intro rfl (And.intro rfl (trivial)))))))
  · rw [if_neg hc] at h
    refine z_aload_n v0 dX1_measure_43 rfl rfl ?_
    obtain ⟨r3, e, h⟩ := h
    refine zq_fR f_X1_9 dX1_measure_44 e ?_
    refine z_iload v4 dX1_measure_47 rfl ?_
    refine z_iconst 1 dX1_measure_49 rfl ?_
    refine z_aload_n v0 dX1_measure_50 rfl rfl ?_
    refine z_aload_n v1 dX1_measure_51 rfl rfl ?_
    refine z_iload_n v2 dX1_measure_52 rfl rfl ?_
    refine z_if_eq 65 dX1_measure_53 rfl (fun hc => ?_) (fun hc => ?_)
    · rw [if_pos hc] at h
      refine z_aload_n v1 dX1_measure_65 rfl rfl ?_
      refine z_iload v4 dX1_measure_66 rfl ?_
      refine zq_VI (N := MX5_belowOf) (As := [.int v4]) m_X1_45 dX1_measure_68 rfl rfl (Nat.le_of_ble_eq_true rfl) h (fun x5 w4 h => ?_)
      exact h
    · rw [if_neg hc] at h
      refine z_aload_n v1 dX1_measure_56 rfl rfl ?_
      refine z_iload v4 dX1_measure_57 rfl ?_
      refine zq_VI (N := MX5_aboveOf) (As := [.int v4]) m_X1_41 dX1_measure_59 rfl rfl (Nat.le_of_ble_eq_true rfl) h (fun x7 w6 h => ?_)
      refine z_goto 71 dX1_measure_62 rfl ?_
      exact h
set_option maxRecDepth 100000 in
set_option maxHeartbeats 4000000 in
theorem bX1_measure_71 {X : zX} {d kc ks : Nat} {w : zW} {Q : Option Value → zW → Prop} (v0 : Nat) (v1 : Nat) (v2 : Int32) (v3 : Int32) (v4 : Int32) (u0 : Int32) (u1 : Nat) (u2 : Nat) (u3 : Int32) (u4 : Int32) (u5 : Nat)
    (h : zIs w u2 1 ∧ zCallI X d MX1_deepest [.ref u2, .ref u1, .int u0] w (fun x2 w1 => ∃ w3, zsI w1 u5 u4 (u3 + x2) = some w3 ∧ (zRn X d kc ks MX1_measure 34 [some (.ref v0), some (.ref v1), some (.int v2), some (.int v3), some (.int (v4 + 1))] [] w3 Q))) :
    zRn X d kc ks MX1_measure 71 [some (.ref v0), some (.ref v1), some (.int v2), some (.int v3), some (.int v4)] [.int u0, .ref u1, .ref u2, .int u3, .int u4, .ref u5] w Q := by
  refine zq_VI (N := MX1_deepest) (As := [.ref u1, .int u0]) m_X1_48 dX1_measure_71 rfl rfl (Nat.le_of_ble_eq_true rfl) h (fun x2 w1 h => ?_)
  refine z_iadd dX1_measure_74 ?_
  obtain ⟨w3, e, h⟩ := h
  refine zq_sI dX1_measure_75 e ?_
  refine z_iinc (i := 4) v4 (v4 + 1) dX1_measure_76 rfl rfl (by decide) rfl ?_
  refine z_goto 34 dX1_measure_79 rfl ?_
  exact h
theorem eX1_measure {X : zX} {d kc ks : Nat} {w : zW} {Q : Option Value → zW → Prop} (p0 : Nat) (p1 : Nat) (a2 : Int32) (h : zRn X d kc ks MX1_measure 0 [some (.ref p0), some (.ref p1), some (.int a2), none, none] [] w Q) : zEv X d kc ks MX1_measure [.ref p0, .ref p1, .int a2] w Q :=
  zEv.of (by decide) (Nat.le_of_ble_eq_true rfl) (Or.inr (by simp [Value.category])) h
set_option maxRecDepth 100000 in
set_option maxHeartbeats 4000000 in
theorem bX1_deepest_0 {X : zX} {d kc ks : Nat} {w : zW} {Q : Option Value → zW → Prop} (p0 : Nat) (p1 : Nat) (a2 : Int32)
    (h : zRn X d kc ks MX1_deepest 5 [some (.ref p0), some (.ref p1), some (.int a2), some (.int 0), some (.int 0)] [] w Q) :
    zRn X d kc ks MX1_deepest 0 [some (.ref p0), some (.ref p1), some (.int a2), none, none] [] w Q := by
  refine z_iconst 0 dX1_deepest_0 rfl ?_
  refine z_istore_n (i := 3) dX1_deepest_1 rfl (by decide) rfl ?_
  refine z_iconst 0 dX1_deepest_2 rfl ?_
  refine z_istore (i := 4) dX1_deepest_3 (by decide) rfl ?_
  exact h
set_option maxRecDepth 100000 in
set_option maxHeartbeats 4000000 in
theorem bX1_deepest_5 {X : zX} {d kc ks : Nat} {w : zW} {Q : Option Value → zW → Prop} (v0 : Nat) (v1 : Nat) (v2 : Int32) (v3 : Int32) (v4 : Int32)
    (h : zIs w v1 5 ∧ zCallI X d MX5_size [.ref v1] w (fun x2 w1 => if x2 ≤ v4 then (Q (some (.int v3)) w1) else (if ((v2 >>> (v4 &&& 31)) &&& 1) = 1 then (∃ r3, zfR w1 v0 1 0 = some r3 ∧ (∃ x4, zaI w1 r3 v4 = some x4 ∧ (0 < d ∧ (zRn X d kc ks MX1_deepest 36 [some (.ref v0), some (.ref v1), some (.int v2), some (.int (if v3 < x4 then x4 else v3)), some (.int v4)] [] w1 Q)))) else (zRn X d kc ks MX1_deepest 36 [some (.ref v0), some (.ref v1), some (.int v2), some (.int v3), some (.int v4)] [] w1 Q)))) :
    zRn X d kc ks MX1_deepest 5 [some (.ref v0), some (.ref v1), some (.int v2), some (.int v3), some (.int v4)] [] w Q := by
  refine z_iload v4 dX1_deepest_5 rfl ?_
  refine z_aload_n v1 dX1_deepest_7 rfl rfl ?_
  refine zq_VI (N := MX5_size) (As := []) m_X1_31 dX1_deepest_8 rfl rfl (Nat.le_of_ble_eq_true rfl) h (fun x2 w1 h => ?_)
  refine z_icmp_ge 42 dX1_deepest_11 rfl (fun hc => ?_) (fun hc => ?_)
  · rw [if_pos hc] at h
    refine z_iload_n v3 dX1_deepest_42 rfl rfl ?_
    exact z_ireturn .int dX1_deepest_43 rfl rfl h
  · rw [if_neg hc] at h
    refine z_iload_n v2 dX1_deepest_14 rfl rfl ?_
    refine z_iload v4 dX1_deepest_15 rfl ?_
    refine z_ishr dX1_deepest_17 ?_
    refine z_iconst 1 dX1_deepest_18 rfl ?_
    refine z_iand dX1_deepest_19 ?_
    refine z_iconst 1 dX1_deepest_20 rfl ?_
    refine z_icmp_ne 36 dX1_deepest_21 rfl (fun hc => ?_) (fun hc => ?_)
    · rw [if_neg hc] at h
      exact h
    · rw [if_pos hc] at h
      refine z_iload_n v3 dX1_deepest_24 rfl rfl ?_
      refine z_aload_n v0 dX1_deepest_25 rfl rfl ?_
      obtain ⟨r3, e, h⟩ := h
      refine zq_fR f_X1_9 dX1_deepest_26 e ?_
      refine z_iload v4 dX1_deepest_29 rfl ?_
      obtain ⟨x4, e, h⟩ := h
      refine zq_aI dX1_deepest_31 e ?_
      refine z_mmax g_646 g_191 g_106 g_192 dX1_deepest_32 (Nat.le_of_ble_eq_true rfl) h.1 ?_
      have h := h.2
      refine z_istore_n (i := 3) dX1_deepest_35 rfl (by decide) rfl ?_
      exact h
set_option maxRecDepth 100000 in
set_option maxHeartbeats 4000000 in
theorem bX1_deepest_36 {X : zX} {d kc ks : Nat} {w : zW} {Q : Option Value → zW → Prop} (v0 : Nat) (v1 : Nat) (v2 : Int32) (v3 : Int32) (v4 : Int32)
    (h : zRn X d kc ks MX1_deepest 5 [some (.ref v0), some (.ref v1), some (.int v2), some (.int v3), some (.int (v4 + 1))] [] w Q) :
    zRn X d kc ks MX1_deepest 36 [some (.ref v0), some (.ref v1), some (.int v2), some (.int v3), some (.int v4)] [] w Q := by
  refine z_iinc (i := 4) v4 (v4 + 1) dX1_deepest_36 rfl rfl (by decide) rfl ?_
  refine z_goto 5 dX1_deepest_39 rfl ?_
  exact h
theorem eX1_deepest {X : zX} {d kc ks : Nat} {w : zW} {Q : Option Value → zW → Prop} (p0 : Nat) (p1 : Nat) (a2 : Int32) (h : zRn X d kc ks MX1_deepest 0 [some (.ref p0), some (.ref p1), some (.int a2), none, none] [] w Q) : zEv X d kc ks MX1_deepest [.ref p0, .ref p1, .int a2] w Q :=
  zEv.of (by decide) (Nat.le_of_ble_eq_true rfl) (Or.inr (by simp [Value.category])) h
set_option maxRecDepth 100000 in
set_option maxHeartbeats 4000000 in
theorem bX1_isLevelled_0 {X : zX} {d kc ks : Nat} {w : zW} {Q : Option Value → zW → Prop} (p0 : Nat) (p1 : Nat)
    (h : zIs w p0 1 ∧ zCallV X d MX1_measure [.ref p0, .ref p1, .int 0] w (fun w1 => zRn X d kc ks MX1_isLevelled 8 [some (.ref p0), some (.ref p1), some (.int 0), none, none] [] w1 Q)) :
    zRn X d kc ks MX1_isLevelled 0 [some (.ref p0), some (.ref p1), none, none, none] [] w Q := by
  refine z_aload_n p0 dX1_isLevelled_0 rfl rfl ?_
  refine z_aload_n p1 dX1_isLevelled_1 rfl rfl ?_
  refine z_iconst 0 dX1_isLevelled_2 rfl ?_
  refine zq_VV (N := MX1_measure) (As := [.ref p1, .int 0]) m_X1_21 dX1_isLevelled_3 rfl rfl (Nat.le_of_ble_eq_true rfl) h (fun w1 h => ?_)
  refine z_iconst 0 dX1_isLevelled_6 rfl ?_
  refine z_istore_n (i := 2) dX1_isLevelled_7 rfl (by decide) rfl ?_
  exact h
set_option maxRecDepth 100000 in
set_option maxHeartbeats 4000000 in
theorem bX1_isLevelled_8 {X : zX} {d kc ks : Nat} {w : zW} {Q : Option Value → zW → Prop} (v0 : Nat) (v1 : Nat) (v2 : Int32)
    (h : zIs w v1 5 ∧ zCallI X d MX5_size [.ref v1] w (fun x2 w1 => if x2 ≤ v2 then (Q (some (.int 1)) w1) else (zIs w1 v1 5 ∧ zCallI X d MX5_coversOf [.ref v1, .int v2] w1 (fun x4 w3 => zRn X d kc ks MX1_isLevelled 25 [some (.ref v0), some (.ref v1), some (.int v2), some (.int x4), some (.int 0)] [] w3 Q)))) :
    zRn X d kc ks MX1_isLevelled 8 [some (.ref v0), some (.ref v1), some (.int v2), none, none] [] w Q := by
  refine z_iload_n v2 dX1_isLevelled_8 rfl rfl ?_
  refine z_aload_n v1 dX1_isLevelled_9 rfl rfl ?_
  refine zq_VI (N := MX5_size) (As := []) m_X1_31 dX1_isLevelled_10 rfl rfl (Nat.le_of_ble_eq_true rfl) h (fun x2 w1 h => ?_)
  refine z_icmp_ge 76 dX1_isLevelled_13 rfl (fun hc => ?_) (fun hc => ?_)
  · rw [if_pos hc] at h
    refine z_iconst 1 dX1_isLevelled_76 rfl ?_
    exact z_ireturn .boolean dX1_isLevelled_77 rfl rfl h
  · rw [if_neg hc] at h
    refine z_aload_n v1 dX1_isLevelled_16 rfl rfl ?_
    refine z_iload_n v2 dX1_isLevelled_17 rfl rfl ?_
    refine zq_VI (N := MX5_coversOf) (As := [.int v2]) m_X1_63 dX1_isLevelled_18 rfl rfl (Nat.le_of_ble_eq_true rfl) h (fun x4 w3 h => ?_)
    refine z_istore_n (i := 3) dX1_isLevelled_21 rfl (by decide) rfl ?_
    refine z_iconst 0 dX1_isLevelled_22 rfl ?_
    refine z_istore (i := 4) dX1_isLevelled_23 (by decide) rfl ?_
    exact h
set_option maxRecDepth 100000 in
set_option maxHeartbeats 4000000 in
theorem bX1_isLevelled_25 {X : zX} {d kc ks : Nat} {w : zW} {Q : Option Value → zW → Prop} (v0 : Nat) (v1 : Nat) (v2 : Int32) (v3 : Int32) (v4 : Int32)
    (h : zIs w v1 5 ∧ zCallI X d MX5_size [.ref v1] w (fun x2 w1 => if x2 ≤ v4 then (zRn X d kc ks MX1_isLevelled 8 [some (.ref v0), some (.ref v1), some (.int (v2 + 1)), none, none] [] w1 Q) else (if ((v3 >>> (v4 &&& 31)) &&& 1) = 1 then (∃ r3, zfR w1 v0 1 0 = some r3 ∧ (∃ x4, zaI w1 r3 v4 = some x4 ∧ (∃ r5, zfR w1 v0 1 0 = some r5 ∧ (∃ x6, zaI w1 r5 v2 = some x6 ∧ (if x4 = (x6 + 1) then (zRn X d kc ks MX1_isLevelled 64 [some (.ref v0), some (.ref v1), some (.int v2), some (.int v3), some (.int v4)] [] w1 Q) else (Q (some (.int 0)) w1)))))) else (zRn X d kc ks MX1_isLevelled 64 [some (.ref v0), some (.ref v1), some (.int v2), some (.int v3), some (.int v4)] [] w1 Q)))) :
    zRn X d kc ks MX1_isLevelled 25 [some (.ref v0), some (.ref v1), some (.int v2), some (.int v3), some (.int v4)] [] w Q := by
  refine z_iload v4 dX1_isLevelled_25 rfl ?_
  refine z_aload_n v1 dX1_isLevelled_27 rfl rfl ?_
  refine zq_VI (N := MX5_size) (As := []) m_X1_31 dX1_isLevelled_28 rfl rfl (Nat.le_of_ble_eq_true rfl) h (fun x2 w1 h => ?_)
  refine z_icmp_ge 70 dX1_isLevelled_31 rfl (fun hc => ?_) (fun hc => ?_)
  · rw [if_pos hc] at h
    refine z_iinc (i := 2) v2 (v2 + 1) dX1_isLevelled_70 rfl rfl (by decide) rfl ?_
    refine z_goto 8 dX1_isLevelled_73 rfl ?_
    exact zRn.weak h (zLe_of [true, true, true, false, false] (And.intro rfl (And.intro rfl (And.intro rfl (And.intro rfl (And.intro rfl (trivial)))))))
  · rw [if_neg hc] at h
    refine z_iload_n v3 dX1_isLevelled_34 rfl rfl ?_
    refine z_iload v4 dX1_isLevelled_35 rfl ?_
    refine z_ishr dX1_isLevelled_37 ?_
    refine z_iconst 1 dX1_isLevelled_38 rfl ?_
    refine z_iand dX1_isLevelled_39 ?_
    refine z_iconst 1 dX1_isLevelled_40 rfl ?_
    refine z_icmp_ne 64 dX1_isLevelled_41 rfl (fun hc => ?_) (fun hc => ?_)
    · rw [if_neg hc] at h
      exact h
    · rw [if_pos hc] at h
      refine z_aload_n v0 dX1_isLevelled_44 rfl rfl ?_
      obtain ⟨r3, e, h⟩ := h
      refine zq_fR f_X1_9 dX1_isLevelled_45 e ?_
      refine z_iload v4 dX1_isLevelled_48 rfl ?_
      obtain ⟨x4, e, h⟩ := h
      refine zq_aI dX1_isLevelled_50 e ?_
      refine z_aload_n v0 dX1_isLevelled_51 rfl rfl ?_
      obtain ⟨r5, e, h⟩ := h
      refine zq_fR f_X1_9 dX1_isLevelled_52 e ?_
      refine z_iload_n v2 dX1_isLevelled_55 rfl rfl ?_
      obtain ⟨x6, e, h⟩ := h
      refine zq_aI dX1_isLevelled_56 e ?_
      refine z_iconst 1 dX1_isLevelled_57 rfl ?_
      refine z_iadd dX1_isLevelled_58 ?_
      refine z_icmp_eq 64 dX1_isLevelled_59 rfl (fun hc => ?_) (fun hc => ?_)
      · rw [if_pos hc] at h
        exact h
      · rw [if_neg hc] at h
        refine z_iconst 0 dX1_isLevelled_62 rfl ?_
        exact z_ireturn .boolean dX1_isLevelled_63 rfl rfl h
set_option maxRecDepth 100000 in
set_option maxHeartbeats 4000000 in
theorem bX1_isLevelled_64 {X : zX} {d kc ks : Nat} {w : zW} {Q : Option Value → zW → Prop} (v0 : Nat) (v1 : Nat) (v2 : Int32) (v3 : Int32) (v4 : Int32)
    (h : zRn X d kc ks MX1_isLevelled 25 [some (.ref v0), some (.ref v1), some (.int v2), some (.int v3), some (.int (v4 + 1))] [] w Q) :
    zRn X d kc ks MX1_isLevelled 64 [some (.ref v0), some (.ref v1), some (.int v2), some (.int v3), some (.int v4)] [] w Q := by
  refine z_iinc (i := 4) v4 (v4 + 1) dX1_isLevelled_64 rfl rfl (by decide) rfl ?_
  refine z_goto 25 dX1_isLevelled_67 rfl ?_
  exact h
theorem eX1_isLevelled {X : zX} {d kc ks : Nat} {w : zW} {Q : Option Value → zW → Prop} (p0 : Nat) (p1 : Nat) (h : zRn X d kc ks MX1_isLevelled 0 [some (.ref p0), some (.ref p1), none, none, none] [] w Q) : zEv X d kc ks MX1_isLevelled [.ref p0, .ref p1] w Q :=
  zEv.of (by decide) (Nat.le_of_ble_eq_true rfl) (Or.inr (by simp [Value.category])) h
set_option maxRecDepth 100000 in
set_option maxHeartbeats 4000000 in
theorem bX1_longestAt_0 {X : zX} {d kc ks : Nat} {w : zW} {Q : Option Value → zW → Prop} (p0 : Nat) (p1 : Nat) (a2 : Int32)
    (h : zIs w p0 1 ∧ zCallI X d MX1_height [.ref p0, .ref p1] w (fun x2 w1 => if a2 < x2 then (zIs w1 p1 5 ∧ zCallI X d MX5_all [.ref p1] w1 (fun x4 w3 => zRn X d kc ks MX1_longestAt 25 [some (.ref p0), some (.ref p1), some (.int a2), some (.int x2), some (.int x4), some (.int (-1)), some (.int 0)] [] w3 Q)) else (Q (some (.int (-1))) w1))) :
    zRn X d kc ks MX1_longestAt 0 [some (.ref p0), some (.ref p1), some (.int a2), none, none, none, none] [] w Q := by
  refine z_aload_n p0 dX1_longestAt_0 rfl rfl ?_
  refine z_aload_n p1 dX1_longestAt_1 rfl rfl ?_
  refine zq_VI (N := MX1_height) (As := [.ref p1]) m_X1_52 dX1_longestAt_2 rfl rfl (Nat.le_of_ble_eq_true rfl) h (fun x2 w1 h => ?_)
  refine z_istore_n (i := 3) dX1_longestAt_5 rfl (by decide) rfl ?_
  refine z_iload_n a2 dX1_longestAt_6 rfl rfl ?_
  refine z_iload_n x2 dX1_longestAt_7 rfl rfl ?_
  refine z_icmp_lt 13 dX1_longestAt_8 rfl (fun hc => ?_) (fun hc => ?_)
  · rw [if_pos hc] at h
    refine z_aload_n p1 dX1_longestAt_13 rfl rfl ?_
    refine zq_VI (N := MX5_all) (As := []) m_X1_56 dX1_longestAt_14 rfl rfl (Nat.le_of_ble_eq_true rfl) h (fun x4 w3 h => ?_)
    refine z_istore (i := 4) dX1_longestAt_17 (by decide) rfl ?_
    refine z_iconst (-1) dX1_longestAt_19 rfl ?_
    refine z_istore (i := 5) dX1_longestAt_20 (by decide) rfl ?_
    refine z_iconst 0 dX1_longestAt_22 rfl ?_
    refine z_istore (i := 6) dX1_longestAt_23 (by decide) rfl ?_
    exact h
  · rw [if_neg hc] at h
    refine z_iconst (-1) dX1_longestAt_11 rfl ?_
    exact z_ireturn .int dX1_longestAt_12 rfl rfl h
set_option maxRecDepth 100000 in
set_option maxHeartbeats 4000000 in
theorem bX1_longestAt_25 {X : zX} {d kc ks : Nat} {w : zW} {Q : Option Value → zW → Prop} (v0 : Nat) (v1 : Nat) (v2 : Int32) (v3 : Int32) (v4 : Int32) (v5 : Int32) (v6 : Int32)
    (h : if v2 < v6 then (Q (some (.int v5)) w) else (zIs w v0 1 ∧ zCallI X d MX1_leastOfDepth [.ref v0, .ref v1, .int v4, .int v3] w (fun x2 w1 => zIs w1 v1 5 ∧ zCallI X d MX5_aboveOf [.ref v1, .int x2] w1 (fun x4 w3 => zRn X d kc ks MX1_longestAt 25 [some (.ref v0), some (.ref v1), some (.int v2), some (.int (v3 - 1)), some (.int x4), some (.int x2), some (.int (v6 + 1))] [] w3 Q)))) :
    zRn X d kc ks MX1_longestAt 25 [some (.ref v0), some (.ref v1), some (.int v2), some (.int v3), some (.int v4), some (.int v5), some (.int v6)] [] w Q := by
  refine z_iload v6 dX1_longestAt_25 rfl ?_
  refine z_iload_n v2 dX1_longestAt_27 rfl rfl ?_
  refine z_icmp_gt 58 dX1_longestAt_28 rfl (fun hc => ?_) (fun hc => ?_)
  · rw [if_pos hc] at h
    refine z_iload v5 dX1_longestAt_58 rfl ?_
    exact z_ireturn .int dX1_longestAt_60 rfl rfl h
  · rw [if_neg hc] at h
    refine z_aload_n v0 dX1_longestAt_31 rfl rfl ?_
    refine z_aload_n v1 dX1_longestAt_32 rfl rfl ?_
    refine z_iload v4 dX1_longestAt_33 rfl ?_
    refine z_iload_n v3 dX1_longestAt_35 rfl rfl ?_
    refine zq_VI (N := MX1_leastOfDepth) (As := [.ref v1, .int v4, .int v3]) m_X1_59 dX1_longestAt_36 rfl rfl (Nat.le_of_ble_eq_true rfl) h (fun x2 w1 h => ?_)
    refine z_istore (i := 5) dX1_longestAt_39 (by decide) rfl ?_
    refine z_aload_n v1 dX1_longestAt_41 rfl rfl ?_
    refine z_iload x2 dX1_longestAt_42 rfl ?_
    refine zq_VI (N := MX5_aboveOf) (As := [.int x2]) m_X1_41 dX1_longestAt_44 rfl rfl (Nat.le_of_ble_eq_true rfl) h (fun x4 w3 h => ?_)
    refine z_istore (i := 4) dX1_longestAt_47 (by decide) rfl ?_
    refine z_iinc (i := 3) v3 (v3 - 1) dX1_longestAt_49 rfl (zdec _) (by decide) rfl ?_
    refine z_iinc (i := 6) v6 (v6 + 1) dX1_longestAt_52 rfl rfl (by decide) rfl ?_
    refine z_goto 25 dX1_longestAt_55 rfl ?_
    exact h
theorem eX1_longestAt {X : zX} {d kc ks : Nat} {w : zW} {Q : Option Value → zW → Prop} (p0 : Nat) (p1 : Nat) (a2 : Int32) (h : zRn X d kc ks MX1_longestAt 0 [some (.ref p0), some (.ref p1), some (.int a2), none, none, none, none] [] w Q) : zEv X d kc ks MX1_longestAt [.ref p0, .ref p1, .int a2] w Q :=
  zEv.of (by decide) (Nat.le_of_ble_eq_true rfl) (Or.inr (by simp [Value.category])) h
set_option maxRecDepth 100000 in
set_option maxHeartbeats 4000000 in
theorem bX1_leastOfDepth_0 {X : zX} {d kc ks : Nat} {w : zW} {Q : Option Value → zW → Prop} (p0 : Nat) (p1 : Nat) (a2 : Int32) (a3 : Int32)
    (h : zRn X d kc ks MX1_leastOfDepth 3 [some (.ref p0), some (.ref p1), some (.int a2), some (.int a3), some (.int 0)] [] w Q) :
    zRn X d kc ks MX1_leastOfDepth 0 [some (.ref p0), some (.ref p1), some (.int a2), some (.int a3), none] [] w Q := by
  refine z_iconst 0 dX1_leastOfDepth_0 rfl ?_
  refine z_istore (i := 4) dX1_leastOfDepth_1 (by decide) rfl ?_
  exact h
set_option maxRecDepth 100000 in
set_option maxHeartbeats 4000000 in
theorem bX1_leastOfDepth_3 {X : zX} {d kc ks : Nat} {w : zW} {Q : Option Value → zW → Prop} (v0 : Nat) (v1 : Nat) (v2 : Int32) (v3 : Int32) (v4 : Int32)
    (h : zIs w v1 5 ∧ zCallI X d MX5_size [.ref v1] w (fun x2 w1 => if x2 ≤ v4 then (Q (some (.int (-1))) w1) else (if ((v2 >>> (v4 &&& 31)) &&& 1) = 1 then (∃ r3, zfR w1 v0 1 0 = some r3 ∧ (∃ x4, zaI w1 r3 v4 = some x4 ∧ (if x4 = v3 then (Q (some (.int v4)) w1) else (zRn X d kc ks MX1_leastOfDepth 36 [some (.ref v0), some (.ref v1), some (.int v2), some (.int v3), some (.int v4)] [] w1 Q)))) else (zRn X d kc ks MX1_leastOfDepth 36 [some (.ref v0), some (.ref v1), some (.int v2), some (.int v3), some (.int v4)] [] w1 Q)))) :
    zRn X d kc ks MX1_leastOfDepth 3 [some (.ref v0), some (.ref v1), some (.int v2), some (.int v3), some (.int v4)] [] w Q := by
  refine z_iload v4 dX1_leastOfDepth_3 rfl ?_
  refine z_aload_n v1 dX1_leastOfDepth_5 rfl rfl ?_
  refine zq_VI (N := MX5_size) (As := []) m_X1_31 dX1_leastOfDepth_6 rfl rfl (Nat.le_of_ble_eq_true rfl) h (fun x2 w1 h => ?_)
  refine z_icmp_ge 42 dX1_leastOfDepth_9 rfl (fun hc => ?_) (fun hc => ?_)
  · rw [if_pos hc] at h
    refine z_iconst (-1) dX1_leastOfDepth_42 rfl ?_
    exact z_ireturn .int dX1_leastOfDepth_43 rfl rfl h
  · rw [if_neg hc] at h
    refine z_iload_n v2 dX1_leastOfDepth_12 rfl rfl ?_
    refine z_iload v4 dX1_leastOfDepth_13 rfl ?_
    refine z_ishr dX1_leastOfDepth_15 ?_
    refine z_iconst 1 dX1_leastOfDepth_16 rfl ?_
    refine z_iand dX1_leastOfDepth_17 ?_
    refine z_iconst 1 dX1_leastOfDepth_18 rfl ?_
    refine z_icmp_ne 36 dX1_leastOfDepth_19 rfl (fun hc => ?_) (fun hc => ?_)
    · rw [if_neg hc] at h
      exact h
    · rw [if_pos hc] at h
      refine z_aload_n v0 dX1_leastOfDepth_22 rfl rfl ?_
      obtain ⟨r3, e, h⟩ := h
      refine zq_fR f_X1_9 dX1_leastOfDepth_23 e ?_
      refine z_iload v4 dX1_leastOfDepth_26 rfl ?_
      obtain ⟨x4, e, h⟩ := h
      refine zq_aI dX1_leastOfDepth_28 e ?_
      refine z_iload_n v3 dX1_leastOfDepth_29 rfl rfl ?_
      refine z_icmp_ne 36 dX1_leastOfDepth_30 rfl (fun hc => ?_) (fun hc => ?_)
      · rw [if_neg hc] at h
        exact h
      · rw [if_pos hc] at h
        refine z_iload v4 dX1_leastOfDepth_33 rfl ?_
        exact z_ireturn .int dX1_leastOfDepth_35 rfl rfl h
set_option maxRecDepth 100000 in
set_option maxHeartbeats 4000000 in
theorem bX1_leastOfDepth_36 {X : zX} {d kc ks : Nat} {w : zW} {Q : Option Value → zW → Prop} (v0 : Nat) (v1 : Nat) (v2 : Int32) (v3 : Int32) (v4 : Int32)
    (h : zRn X d kc ks MX1_leastOfDepth 3 [some (.ref v0), some (.ref v1), some (.int v2), some (.int v3), some (.int (v4 + 1))] [] w Q) :
    zRn X d kc ks MX1_leastOfDepth 36 [some (.ref v0), some (.ref v1), some (.int v2), some (.int v3), some (.int v4)] [] w Q := by
  refine z_iinc (i := 4) v4 (v4 + 1) dX1_leastOfDepth_36 rfl rfl (by decide) rfl ?_
  refine z_goto 3 dX1_leastOfDepth_39 rfl ?_
  exact h
theorem eX1_leastOfDepth {X : zX} {d kc ks : Nat} {w : zW} {Q : Option Value → zW → Prop} (p0 : Nat) (p1 : Nat) (a2 : Int32) (a3 : Int32) (h : zRn X d kc ks MX1_leastOfDepth 0 [some (.ref p0), some (.ref p1), some (.int a2), some (.int a3), none] [] w Q) : zEv X d kc ks MX1_leastOfDepth [.ref p0, .ref p1, .int a2, .int a3] w Q :=
  zEv.of (by decide) (Nat.le_of_ble_eq_true rfl) (Or.inr (by simp [Value.category])) h
set_option maxRecDepth 100000 in
set_option maxHeartbeats 4000000 in
theorem bX1_chainOf_0 {X : zX} {d kc ks : Nat} {w : zW} {Q : Option Value → zW → Prop} (p0 : Nat) (p1 : Nat) (a2 : Int32)
    (h : zCallI X d MX10_widest [.ref p1] w (fun x2 w1 => zCallI X d MJ6_bitCount_0f7a4 [.int x2] w1 (fun x4 w3 => zRn X d kc ks MX1_chainOf 11 [some (.ref p0), some (.ref p1), some (.int a2), some (.int x4), some (.int 0)] [] w3 Q))) :
    zRn X d kc ks MX1_chainOf 0 [some (.ref p0), some (.ref p1), some (.int a2), none, none] [] w Q := by
  refine z_aload_n p1 dX1_chainOf_0 rfl rfl ?_
  refine zq_SI (N := MX10_widest) (As := [.ref p1]) m_X1_66 dX1_chainOf_1 rfl rfl (Nat.le_of_ble_eq_true rfl) h (fun x2 w1 h => ?_)
  refine zq_SI (N := MJ6_bitCount_0f7a4) (As := [.int x2]) m_X1_71 dX1_chainOf_4 rfl rfl (Nat.le_of_ble_eq_true rfl) h (fun x4 w3 h => ?_)
  refine z_istore_n (i := 3) dX1_chainOf_7 rfl (by decide) rfl ?_
  refine z_iconst 0 dX1_chainOf_8 rfl ?_
  refine z_istore (i := 4) dX1_chainOf_9 (by decide) rfl ?_
  exact h
set_option maxRecDepth 100000 in
set_option maxHeartbeats 4000000 in
theorem bX1_chainOf_11 {X : zX} {d kc ks : Nat} {w : zW} {Q : Option Value → zW → Prop} (v0 : Nat) (v1 : Nat) (v2 : Int32) (v3 : Int32) (v4 : Int32)
    (h : if 8 ≤ v4 then (∃ r1, zfR w v0 1 1 = some r1 ∧ (∃ r2, zfR w v0 1 2 = some r2 ∧ (zCallI X d MX1_divide [.ref v1, .ref r1, .ref r2, .int 0, .int 0, .int v3] w (fun x4 w3 => zIs w3 v1 5 ∧ zCallI X d MX5_has [.ref v1, .int v2] w3 (fun x6 w5 => if x6 = 0 then (Q (some (.int (-1))) w5) else (∃ r7, zfR w5 v0 1 1 = some r7 ∧ (∃ x8, zaI w5 r7 v2 = some x8 ∧ (Q (some (.int x8)) w5)))))))) else (∃ r9, zfR w v0 1 2 = some r9 ∧ (∃ w10, zsI w r9 v4 0 = some w10 ∧ (zRn X d kc ks MX1_chainOf 11 [some (.ref v0), some (.ref v1), some (.int v2), some (.int v3), some (.int (v4 + 1))] [] w10 Q)))) :
    zRn X d kc ks MX1_chainOf 11 [some (.ref v0), some (.ref v1), some (.int v2), some (.int v3), some (.int v4)] [] w Q := by
  refine z_iload v4 dX1_chainOf_11 rfl ?_
  refine z_bipush 8 dX1_chainOf_13 rfl ?_
  refine z_icmp_ge 32 dX1_chainOf_15 rfl (fun hc => ?_) (fun hc => ?_)
  · rw [if_pos hc] at h
    refine z_aload_n v1 dX1_chainOf_32 rfl rfl ?_
    refine z_aload_n v0 dX1_chainOf_33 rfl rfl ?_
    obtain ⟨r1, e, h⟩ := h
    refine zq_fR f_X1_15 dX1_chainOf_34 e ?_
    refine z_aload_n v0 dX1_chainOf_37 rfl rfl ?_
    obtain ⟨r2, e, h⟩ := h
    refine zq_fR f_X1_18 dX1_chainOf_38 e ?_
    refine z_iconst 0 dX1_chainOf_41 rfl ?_
    refine z_iconst 0 dX1_chainOf_42 rfl ?_
    refine z_iload_n v3 dX1_chainOf_43 rfl rfl ?_
    refine zq_SI (N := MX1_divide) (As := [.ref v1, .ref r1, .ref r2, .int 0, .int 0, .int v3]) m_X1_76 dX1_chainOf_44 rfl rfl (Nat.le_of_ble_eq_true rfl) h (fun x4 w3 h => ?_)
    refine z_pop dX1_chainOf_47 rfl ?_
    refine z_aload_n v1 dX1_chainOf_48 rfl rfl ?_
    refine z_iload_n v2 dX1_chainOf_49 rfl rfl ?_
    refine zq_VI (N := MX5_has) (As := [.int v2]) m_X1_25 dX1_chainOf_50 rfl rfl (Nat.le_of_ble_eq_true rfl) h (fun x6 w5 h => ?_)
    refine z_if_eq 65 dX1_chainOf_53 rfl (fun hc => ?_) (fun hc => ?_)
    · rw [if_pos hc] at h
      refine z_iconst (-1) dX1_chainOf_65 rfl ?_
      exact z_ireturn .int dX1_chainOf_66 rfl rfl h
    · rw [if_neg hc] at h
      refine z_aload_n v0 dX1_chainOf_56 rfl rfl ?_
      obtain ⟨r7, e, h⟩ := h
      refine zq_fR f_X1_15 dX1_chainOf_57 e ?_
      refine z_iload_n v2 dX1_chainOf_60 rfl rfl ?_
      obtain ⟨x8, e, h⟩ := h
      refine zq_aI dX1_chainOf_61 e ?_
      refine z_goto 66 dX1_chainOf_62 rfl ?_
      exact z_ireturn .int dX1_chainOf_66 rfl rfl h
  · rw [if_neg hc] at h
    refine z_aload_n v0 dX1_chainOf_18 rfl rfl ?_
    obtain ⟨r9, e, h⟩ := h
    refine zq_fR f_X1_18 dX1_chainOf_19 e ?_
    refine z_iload v4 dX1_chainOf_22 rfl ?_
    refine z_iconst 0 dX1_chainOf_24 rfl ?_
    obtain ⟨w10, e, h⟩ := h
    refine zq_sI dX1_chainOf_25 e ?_
    refine z_iinc (i := 4) v4 (v4 + 1) dX1_chainOf_26 rfl rfl (by decide) rfl ?_
    refine z_goto 11 dX1_chainOf_29 rfl ?_
    exact h
theorem eX1_chainOf {X : zX} {d kc ks : Nat} {w : zW} {Q : Option Value → zW → Prop} (p0 : Nat) (p1 : Nat) (a2 : Int32) (h : zRn X d kc ks MX1_chainOf 0 [some (.ref p0), some (.ref p1), some (.int a2), none, none] [] w Q) : zEv X d kc ks MX1_chainOf [.ref p0, .ref p1, .int a2] w Q :=
  zEv.of (by decide) (Nat.le_of_ble_eq_true rfl) (Or.inr (by simp [Value.category])) h
set_option maxRecDepth 100000 in
set_option maxHeartbeats 4000000 in
theorem bX1_divide_0 {X : zX} {d kc ks : Nat} {w : zW} {Q : Option Value → zW → Prop} (p0 : Nat) (p1 : Nat) (p2 : Nat) (a3 : Int32) (a4 : Int32) (a5 : Int32)
    (h : zIs w p0 5 ∧ zCallI X d MX5_has [.ref p0, .int a3] w (fun x2 w1 => if x2 = 0 then (Q (some (.int 1)) w1) else (zRn X d kc ks MX1_divide 13 [some (.ref p0), some (.ref p1), some (.ref p2), some (.int a3), some (.int a4), some (.int a5), some (.int 0)] [] w1 Q))) :
    zRn X d kc ks MX1_divide 0 [some (.ref p0), some (.ref p1), some (.ref p2), some (.int a3), some (.int a4), some (.int a5), none] [] w Q := by
  refine z_aload_n p0 dX1_divide_0 rfl rfl ?_
  refine z_iload_n a3 dX1_divide_1 rfl rfl ?_
  refine zq_VI (N := MX5_has) (As := [.int a3]) m_X1_25 dX1_divide_2 rfl rfl (Nat.le_of_ble_eq_true rfl) h (fun x2 w1 h => ?_)
  refine z_if_ne 10 dX1_divide_5 rfl (fun hc => ?_) (fun hc => ?_)
  · rw [if_neg hc] at h
    refine z_iconst 0 dX1_divide_10 rfl ?_
    refine z_istore (i := 6) dX1_divide_11 (by decide) rfl ?_
    exact h
  · rw [if_pos hc] at h
    refine z_iconst 1 dX1_divide_8 rfl ?_
    exact z_ireturn .boolean dX1_divide_9 rfl rfl h
set_option maxRecDepth 100000 in
set_option maxHeartbeats 4000000 in
theorem bX1_divide_13 {X : zX} {d kc ks : Nat} {w : zW} {Q : Option Value → zW → Prop} (v0 : Nat) (v1 : Nat) (v2 : Nat) (v3 : Int32) (v4 : Int32) (v5 : Int32) (v6 : Int32)
    (h : if v4 < v6 then (Q (some (.int 0)) w) else (if v5 ≤ v6 then (Q (some (.int 0)) w) else (if 8 ≤ v6 then (Q (some (.int 0)) w) else (∃ x1, zaI w v2 v6 = some x1 ∧ (zIs w v0 5 ∧ zCallI X d MX5_freeOf [.ref v0, .int v3] w (fun x3 w2 => if (x1 &&& x3) = 0 then (∃ x4, zaI w2 v2 v6 = some x4 ∧ (∃ w5, zsI w2 v2 v6 (x4 ||| ((1 : Int32) <<< (v3 &&& 31))) = some w5 ∧ (∃ w6, zsI w5 v1 v3 v6 = some w6 ∧ (0 < d ∧ (zCallI X d MX1_divide [.ref v0, .ref v1, .ref v2, .int (v3 + 1), .int (if v4 < (v6 + 1) then (v6 + 1) else v4), .int v5] w6 (fun x8 w7 => if x8 = 0 then (∃ x9, zaI w7 v2 v6 = some x9 ∧ (∃ w10, zsI w7 v2 v6 (x9 &&& (((1 : Int32) <<< (v3 &&& 31)) ^^^ (-1))) = some w10 ∧ (zRn X d kc ks MX1_divide 99 [some (.ref v0), some (.ref v1), some (.ref v2), some (.int v3), some (.int v4), some (.int v5), some (.int v6)] [] w10 Q))) else (Q (some (.int 1)) w7))))))) else (zRn X d kc ks MX1_divide 99 [some (.ref v0), some (.ref v1), some (.ref v2), some (.int v3), some (.int v4), some (.int v5), some (.int v6)] [] w2 Q))))))) :
    zRn X d kc ks MX1_divide 13 [some (.ref v0), some (.ref v1), some (.ref v2), some (.int v3), some (.int v4), some (.int v5), some (.int v6)] [] w Q := by
  refine z_iload v6 dX1_divide_13 rfl ?_
  refine z_iload v4 dX1_divide_15 rfl ?_
  refine z_icmp_gt 105 dX1_divide_17 rfl (fun hc => ?_) (fun hc => ?_)
  · rw [if_pos hc] at h
    refine z_iconst 0 dX1_divide_105 rfl ?_
    exact z_ireturn .boolean dX1_divide_106 rfl rfl h
  · rw [if_neg hc] at h
    refine z_iload v6 dX1_divide_20 rfl ?_
    refine z_iload v5 dX1_divide_22 rfl ?_
    refine z_icmp_ge 105 dX1_divide_24 rfl (fun hc => ?_) (fun hc => ?_)
    · rw [if_pos hc] at h
      refine z_iconst 0 dX1_divide_105 rfl ?_
      exact z_ireturn .boolean dX1_divide_106 rfl rfl h
    · rw [if_neg hc] at h
      refine z_iload v6 dX1_divide_27 rfl ?_
      refine z_bipush 8 dX1_divide_29 rfl ?_
      refine z_icmp_ge 105 dX1_divide_31 rfl (fun hc => ?_) (fun hc => ?_)
      · rw [if_pos hc] at h
        refine z_iconst 0 dX1_divide_105 rfl ?_
        exact z_ireturn .boolean dX1_divide_106 rfl rfl h
      · rw [if_neg hc] at h
        refine z_aload_n v2 dX1_divide_34 rfl rfl ?_
        refine z_iload v6 dX1_divide_35 rfl ?_
        obtain ⟨x1, e, h⟩ := h
        refine zq_aI dX1_divide_37 e ?_
        refine z_aload_n v0 dX1_divide_38 rfl rfl ?_
        refine z_iload_n v3 dX1_divide_39 rfl rfl ?_
        refine zq_VI (N := MX5_freeOf) (As := [.int v3]) m_X1_80 dX1_divide_40 rfl rfl (Nat.le_of_ble_eq_true rfl) h (fun x3 w2 h => ?_)
        refine z_iand dX1_divide_43 ?_
        refine z_if_ne 99 dX1_divide_44 rfl (fun hc => ?_) (fun hc => ?_)
        · rw [if_neg hc] at h
          exact h
        · rw [if_pos hc] at h
          refine z_aload_n v2 dX1_divide_47 rfl rfl ?_
          refine z_iload v6 dX1_divide_48 rfl ?_
          refine z_dup2 dX1_divide_50 rfl rfl ?_
          obtain ⟨x4, e, h⟩ := h
          refine zq_aI dX1_divide_51 e ?_
          refine z_iconst 1 dX1_divide_52 rfl ?_
          refine z_iload_n v3 dX1_divide_53 rfl rfl ?_
          refine z_ishl dX1_divide_54 ?_
          refine z_ior dX1_divide_55 ?_
          obtain ⟨w5, e, h⟩ := h
          refine zq_sI dX1_divide_56 e ?_
          refine z_aload_n v1 dX1_divide_57 rfl rfl ?_
          refine z_iload_n v3 dX1_divide_58 rfl rfl ?_
          refine z_iload v6 dX1_divide_59 rfl ?_
          obtain ⟨w6, e, h⟩ := h
          refine zq_sI dX1_divide_61 e ?_
          refine z_aload_n v0 dX1_divide_62 rfl rfl ?_
          refine z_aload_n v1 dX1_divide_63 rfl rfl ?_
          refine z_aload_n v2 dX1_divide_64 rfl rfl ?_
          refine z_iload_n v3 dX1_divide_65 rfl rfl ?_
          refine z_iconst 1 dX1_divide_66 rfl ?_
          refine z_iadd dX1_divide_67 ?_
          refine z_iload v4 dX1_divide_68 rfl ?_
          refine z_iload v6 dX1_divide_70 rfl ?_
          refine z_iconst 1 dX1_divide_72 rfl ?_
          refine z_iadd dX1_divide_73 ?_
          refine z_mmax g_646 g_191 g_106 g_192 dX1_divide_74 (Nat.le_of_ble_eq_true rfl) h.1 ?_
          have h := h.2
          refine z_iload v5 dX1_divide_77 rfl ?_
          refine zq_SI (N := MX1_divide) (As := [.ref v0, .ref v1, .ref v2, .int (v3 + 1), .int (if v4 < (v6 + 1) then (v6 + 1) else v4), .int v5]) m_X1_76 dX1_divide_79 rfl rfl (Nat.le_of_ble_eq_true rfl) h (fun x8 w7 h => ?_)
          refine z_if_eq 87 dX1_divide_82 rfl (fun hc => ?_) (fun hc => ?_)
          · rw [if_pos hc] at h
            refine z_aload_n v2 dX1_divide_87 rfl rfl ?_
            refine z_iload v6 dX1_divide_88 rfl ?_
            refine z_dup2 dX1_divide_90 rfl rfl ?_
            obtain ⟨x9, e, h⟩ := h
            refine zq_aI dX1_divide_91 e ?_
            refine z_iconst 1 dX1_divide_92 rfl ?_
            refine z_iload_n v3 dX1_divide_93 rfl rfl ?_
            refine z_ishl dX1_divide_94 ?_
            refine z_iconst (-1) dX1_divide_95 rfl ?_
            refine z_ixor dX1_divide_96 ?_
            refine z_iand dX1_divide_97 ?_
            obtain ⟨w10, e, h⟩ := h
            refine zq_sI dX1_divide_98 e ?_
            exact h
          · rw [if_neg hc] at h
            refine z_iconst 1 dX1_divide_85 rfl ?_
            exact z_ireturn .boolean dX1_divide_86 rfl rfl h
set_option maxRecDepth 100000 in
set_option maxHeartbeats 4000000 in
theorem bX1_divide_99 {X : zX} {d kc ks : Nat} {w : zW} {Q : Option Value → zW → Prop} (v0 : Nat) (v1 : Nat) (v2 : Nat) (v3 : Int32) (v4 : Int32) (v5 : Int32) (v6 : Int32)
    (h : zRn X d kc ks MX1_divide 13 [some (.ref v0), some (.ref v1), some (.ref v2), some (.int v3), some (.int v4), some (.int v5), some (.int (v6 + 1))] [] w Q) :
    zRn X d kc ks MX1_divide 99 [some (.ref v0), some (.ref v1), some (.ref v2), some (.int v3), some (.int v4), some (.int v5), some (.int v6)] [] w Q := by
  refine z_iinc (i := 6) v6 (v6 + 1) dX1_divide_99 rfl rfl (by decide) rfl ?_
  refine z_goto 13 dX1_divide_102 rfl ?_
  exact h
theorem eX1_divide {X : zX} {d kc ks : Nat} {w : zW} {Q : Option Value → zW → Prop} (p0 : Nat) (p1 : Nat) (p2 : Nat) (a3 : Int32) (a4 : Int32) (a5 : Int32) (h : zRn X d kc ks MX1_divide 0 [some (.ref p0), some (.ref p1), some (.ref p2), some (.int a3), some (.int a4), some (.int a5), none] [] w Q) : zEv X d kc ks MX1_divide [.ref p0, .ref p1, .ref p2, .int a3, .int a4, .int a5] w Q :=
  zEv.of (by decide) (Nat.le_of_ble_eq_true rfl) (Or.inr (by simp [Value.category])) h
set_option maxRecDepth 100000 in
set_option maxHeartbeats 4000000 in
theorem bX1_depth_0 {X : zX} {d kc ks : Nat} {w : zW} {Q : Option Value → zW → Prop} (p0 : Nat) (p1 : Nat) (a2 : Int32) (a3 : Int32)
    (h : zIs w p0 1 ∧ zCallV X d MX1_measure [.ref p0, .ref p1, .int a3] w (fun w1 => zIs w1 p1 5 ∧ zCallI X d MX5_has [.ref p1, .int a2] w1 (fun x3 w2 => if x3 = 0 then (Q (some (.int 0)) w2) else (∃ r4, zfR w2 p0 1 0 = some r4 ∧ (∃ x5, zaI w2 r4 a2 = some x5 ∧ (Q (some (.int x5)) w2)))))) :
    zRn X d kc ks MX1_depth 0 [some (.ref p0), some (.ref p1), some (.int a2), some (.int a3)] [] w Q := by
  refine z_aload_n p0 dX1_depth_0 rfl rfl ?_
  refine z_aload_n p1 dX1_depth_1 rfl rfl ?_
  refine z_iload_n a3 dX1_depth_2 rfl rfl ?_
  refine zq_VV (N := MX1_measure) (As := [.ref p1, .int a3]) m_X1_21 dX1_depth_3 rfl rfl (Nat.le_of_ble_eq_true rfl) h (fun w1 h => ?_)
  refine z_aload_n p1 dX1_depth_6 rfl rfl ?_
  refine z_iload_n a2 dX1_depth_7 rfl rfl ?_
  refine zq_VI (N := MX5_has) (As := [.int a2]) m_X1_25 dX1_depth_8 rfl rfl (Nat.le_of_ble_eq_true rfl) h (fun x3 w2 h => ?_)
  refine z_if_eq 23 dX1_depth_11 rfl (fun hc => ?_) (fun hc => ?_)
  · rw [if_pos hc] at h
    refine z_iconst 0 dX1_depth_23 rfl ?_
    exact z_ireturn .int dX1_depth_24 rfl rfl h
  · rw [if_neg hc] at h
    refine z_aload_n p0 dX1_depth_14 rfl rfl ?_
    obtain ⟨r4, e, h⟩ := h
    refine zq_fR f_X1_9 dX1_depth_15 e ?_
    refine z_iload_n a2 dX1_depth_18 rfl rfl ?_
    obtain ⟨x5, e, h⟩ := h
    refine zq_aI dX1_depth_19 e ?_
    refine z_goto 24 dX1_depth_20 rfl ?_
    exact z_ireturn .int dX1_depth_24 rfl rfl h
theorem eX1_depth {X : zX} {d kc ks : Nat} {w : zW} {Q : Option Value → zW → Prop} (p0 : Nat) (p1 : Nat) (a2 : Int32) (a3 : Int32) (h : zRn X d kc ks MX1_depth 0 [some (.ref p0), some (.ref p1), some (.int a2), some (.int a3)] [] w Q) : zEv X d kc ks MX1_depth [.ref p0, .ref p1, .int a2, .int a3] w Q :=
  zEv.of (by decide) (Nat.le_of_ble_eq_true rfl) (Or.inr (by simp [Value.category])) h
