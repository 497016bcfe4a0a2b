set_option maxRecDepth 100000 in
set_option maxHeartbeats 4000000 in
theorem bX7_init_0 {X : zX} {d kc ks : Nat} {w : zW} {Q : Option Value → zW → Prop} (p0 : Nat) (p1 : Nat)
    (h : 0 < d ∧ (∃ w1, zsF w p0 7 5 (.int (-1)) = some w1 ∧ (∃ w2, zsF w1 p0 7 0 (.ref p1) = some w2 ∧ (Q none w2)))) :
    zRn X d kc ks MX7_init 0 [some (.ref p0), some (.ref p1)] [] w Q := by
  refine z_aload_n p0 dX7_init_0 rfl rfl ?_
  refine z_objInit g_205 g_127 g_128 dX7_init_1 (Nat.le_of_ble_eq_true rfl) h.1 ?_
  have h := h.2
  refine z_aload_n p0 dX7_init_4 rfl rfl ?_
  refine z_iconst (-1) dX7_init_5 rfl ?_
  obtain ⟨w1, e, h⟩ := h
  refine zq_sF f_X7_9 dX7_init_6 (fun _ => rfl) (fun _ => rfl) e ?_
  refine z_aload_n p0 dX7_init_9 rfl rfl ?_
  refine z_aload_n p1 dX7_init_10 rfl rfl ?_
  obtain ⟨w2, e, h⟩ := h
  refine zq_sFf f_X7_15 rfl dX7_init_11 (fun _ => rfl) (fun _ => rfl) e ?_
  exact z_vreturn dX7_init_14 rfl h
theorem eX7_init {X : zX} {d kc ks : Nat} {w : zW} {Q : Option Value → zW → Prop} (p0 : Nat) (p1 : Nat) (h : zRn X d kc ks MX7_init 0 [some (.ref p0), some (.ref p1)] [] w Q) : zEv X d kc ks MX7_init [.ref p0, .ref p1] w Q :=
  zEv.of (by decide) (Nat.le_of_ble_eq_true rfl) (Or.inr (by simp [Value.category])) h
set_option maxRecDepth 100000 in
set_option maxHeartbeats 4000000 in
theorem bX7_read_0 {X : zX} {d kc ks : Nat} {w : zW} {Q : Option Value → zW → Prop} (p0 : Nat) (p1 : Nat)
    (h : ∃ w1, zsF w p0 7 3 (.int 0) = some w1 ∧ (∃ w2, zsF w1 p0 7 4 (.int 0) = some w2 ∧ (∃ w3, zsF w2 p0 7 5 (.int (-1)) = some w3 ∧ (zIs w3 p0 7 ∧ zCallV X d MX7_advance [.ref p0] w3 (fun w4 => zIs w4 p0 7 ∧ zCallI X d MX7_readHead [.ref p0, .ref p1] w4 (fun x6 w5 => if x6 = 0 then (Q (some (.int 0)) w5) else (zIs w5 p0 7 ∧ zCallI X d MX7_readTwos [.ref p0, .ref p1] w5 (fun x8 w7 => if x8 = 0 then (Q (some (.int 0)) w7) else (zIs w7 p0 7 ∧ zCallI X d MX7_readRows [.ref p0, .ref p1] w7 (fun x10 w9 => if x10 = 0 then (Q (some (.int 0)) w9) else (Q (some (.int 1)) w9))))))))))) :
    zRn X d kc ks MX7_read 0 [some (.ref p0), some (.ref p1)] [] w Q := by
  refine z_aload_n p0 dX7_read_0 rfl rfl ?_
  refine z_iconst 0 dX7_read_1 rfl ?_
  obtain ⟨w1, e, h⟩ := h
  refine zq_sF f_X7_22 dX7_read_2 (fun _ => rfl) (fun _ => rfl) e ?_
  refine z_aload_n p0 dX7_read_5 rfl rfl ?_
  refine z_iconst 0 dX7_read_6 rfl ?_
  obtain ⟨w2, e, h⟩ := h
  refine zq_sF f_X7_19 dX7_read_7 (fun _ => rfl) (fun _ => rfl) e ?_
  refine z_aload_n p0 dX7_read_10 rfl rfl ?_
  refine z_iconst (-1) dX7_read_11 rfl ?_
  obtain ⟨w3, e, h⟩ := h
  refine zq_sF f_X7_9 dX7_read_12 (fun _ => rfl) (fun _ => rfl) e ?_
  refine z_aload_n p0 dX7_read_15 rfl rfl ?_
  refine zq_VV (N := MX7_advance) (As := []) m_X7_25 dX7_read_16 rfl rfl (Nat.le_of_ble_eq_true rfl) h (fun w4 h => ?_)
  refine z_aload_n p0 dX7_read_19 rfl rfl ?_
  refine z_aload_n p1 dX7_read_20 rfl rfl ?_
  refine zq_VI (N := MX7_readHead) (As := [.ref p1]) m_X7_28 dX7_read_21 rfl rfl (Nat.le_of_ble_eq_true rfl) h (fun x6 w5 h => ?_)
  refine z_if_eq 47 dX7_read_24 rfl (fun hc => ?_) (fun hc => ?_)
  · rw [if_pos hc] at h
    refine z_iconst 0 dX7_read_47 rfl ?_
    exact z_ireturn .boolean dX7_read_48 rfl rfl h
  · rw [if_neg hc] at h
    refine z_aload_n p0 dX7_read_27 rfl rfl ?_
    refine z_aload_n p1 dX7_read_28 rfl rfl ?_
    refine zq_VI (N := MX7_readTwos) (As := [.ref p1]) m_X7_32 dX7_read_29 rfl rfl (Nat.le_of_ble_eq_true rfl) h (fun x8 w7 h => ?_)
    refine z_if_eq 47 dX7_read_32 rfl (fun hc => ?_) (fun hc => ?_)
    · rw [if_pos hc] at h
      refine z_iconst 0 dX7_read_47 rfl ?_
      exact z_ireturn .boolean dX7_read_48 rfl rfl h
    · rw [if_neg hc] at h
      refine z_aload_n p0 dX7_read_35 rfl rfl ?_
      refine z_aload_n p1 dX7_read_36 rfl rfl ?_
      refine zq_VI (N := MX7_readRows) (As := [.ref p1]) m_X7_35 dX7_read_37 rfl rfl (Nat.le_of_ble_eq_true rfl) h (fun x10 w9 h => ?_)
      refine z_if_eq 47 dX7_read_40 rfl (fun hc => ?_) (fun hc => ?_)
      · rw [if_pos hc] at h
        refine z_iconst 0 dX7_read_47 rfl ?_
        exact z_ireturn .boolean dX7_read_48 rfl rfl h
      · rw [if_neg hc] at h
        refine z_iconst 1 dX7_read_43 rfl ?_
        refine z_goto 48 dX7_read_44 rfl ?_
        exact z_ireturn .boolean dX7_read_48 rfl rfl h
theorem eX7_read {X : zX} {d kc ks : Nat} {w : zW} {Q : Option Value → zW → Prop} (p0 : Nat) (p1 : Nat) (h : zRn X d kc ks MX7_read 0 [some (.ref p0), some (.ref p1)] [] w Q) : zEv X d kc ks MX7_read [.ref p0, .ref p1] w Q :=
  zEv.of (by decide) (Nat.le_of_ble_eq_true rfl) (Or.inr (by simp [Value.category])) h
set_option maxRecDepth 100000 in
set_option maxHeartbeats 4000000 in
theorem bX7_advance_0 {X : zX} {d kc ks : Nat} {w : zW} {Q : Option Value → zW → Prop} (p0 : Nat)
    (h : ∃ x1, zfI w p0 7 3 = some x1 ∧ (∃ w2, zsF w p0 7 2 (.int x1) = some w2 ∧ (zRn X d kc ks MX7_advance 8 [some (.ref p0), none] [] w2 Q))) :
    zRn X d kc ks MX7_advance 0 [some (.ref p0), none] [] w Q := by
  refine z_aload_n p0 dX7_advance_0 rfl rfl ?_
  refine z_aload_n p0 dX7_advance_1 rfl rfl ?_
  obtain ⟨x1, e, h⟩ := h
  refine zq_fI f_X7_22 dX7_advance_2 e ?_
  obtain ⟨w2, e, h⟩ := h
  refine zq_sF f_X7_101 dX7_advance_5 (fun _ => rfl) (fun _ => rfl) e ?_
  exact h
set_option maxRecDepth 100000 in
set_option maxHeartbeats 4000000 in
theorem bX7_advance_8 {X : zX} {d kc ks : Nat} {w : zW} {Q : Option Value → zW → Prop} (v0 : Nat)
    (h : ∃ x1, zfI w v0 7 2 = some x1 ∧ (∃ r2, zfR w v0 7 0 = some r2 ∧ (zIs w r2 0 ∧ zCallI X d MX0_size [.ref r2] w (fun x4 w3 => if x4 ≤ x1 then (zRn X d kc ks MX7_advance 52 [some (.ref v0), none] [] w3 Q) else (∃ r5, zfR w3 v0 7 0 = some r5 ∧ (∃ x6, zfI w3 v0 7 2 = some x6 ∧ (zIs w3 r5 0 ∧ zCallI X d MX0_byteAt [.ref r5, .int x6] w3 (fun x8 w7 => zCallI X d MX7_isBlank [.int x8] w7 (fun x10 w9 => if x10 = 0 then (zRn X d kc ks MX7_advance 52 [some (.ref v0), none] [] w9 Q) else (∃ x11, zfI w9 v0 7 2 = some x11 ∧ (∃ w12, zsF w9 v0 7 2 (.int (x11 + 1)) = some w12 ∧ (zRn X d kc ks MX7_advance 8 [some (.ref v0), none] [] w12 Q)))))))))))) :
    zRn X d kc ks MX7_advance 8 [some (.ref v0), none] [] w Q := by
  refine z_aload_n v0 dX7_advance_8 rfl rfl ?_
  obtain ⟨x1, e, h⟩ := h
  refine zq_fI f_X7_101 dX7_advance_9 e ?_
  refine z_aload_n v0 dX7_advance_12 rfl rfl ?_
  obtain ⟨r2, e, h⟩ := h
  refine zq_fR f_X7_15 dX7_advance_13 e ?_
  refine zq_VI (N := MX0_size) (As := []) m_X7_121 dX7_advance_16 rfl rfl (Nat.le_of_ble_eq_true rfl) h (fun x4 w3 h => ?_)
  refine z_icmp_ge 52 dX7_advance_19 rfl (fun hc => ?_) (fun hc => ?_)
  · rw [if_pos hc] at h
    exact h
  · rw [if_neg hc] at h
    refine z_aload_n v0 dX7_advance_22 rfl rfl ?_
    obtain ⟨r5, e, h⟩ := h
    refine zq_fR f_X7_15 dX7_advance_23 e ?_
    refine z_aload_n v0 dX7_advance_26 rfl rfl ?_
    obtain ⟨x6, e, h⟩ := h
    refine zq_fI f_X7_101 dX7_advance_27 e ?_
    refine zq_VI (N := MX0_byteAt) (As := [.int x6]) m_X7_105 dX7_advance_30 rfl rfl (Nat.le_of_ble_eq_true rfl) h (fun x8 w7 h => ?_)
    refine zq_SI (N := MX7_isBlank) (As := [.int x8]) m_X7_122 dX7_advance_33 rfl rfl (Nat.le_of_ble_eq_true rfl) h (fun x10 w9 h => ?_)
    refine z_if_eq 52 dX7_advance_36 rfl (fun hc => ?_) (fun hc => ?_)
    · rw [if_pos hc] at h
      exact h
    · rw [if_neg hc] at h
      refine z_aload_n v0 dX7_advance_39 rfl rfl ?_
      refine z_dup dX7_advance_40 rfl ?_
      obtain ⟨x11, e, h⟩ := h
      refine zq_fI f_X7_101 dX7_advance_41 e ?_
      refine z_iconst 1 dX7_advance_44 rfl ?_
      refine z_iadd dX7_advance_45 ?_
      obtain ⟨w12, e, h⟩ := h
      refine zq_sF f_X7_101 dX7_advance_46 (fun _ => rfl) (fun _ => rfl) e ?_
      refine z_goto 8 dX7_advance_49 rfl ?_
      exact h
set_option maxRecDepth 100000 in
set_option maxHeartbeats 4000000 in
theorem bX7_advance_52 {X : zX} {d kc ks : Nat} {w : zW} {Q : Option Value → zW → Prop} (v0 : Nat)
    (h : ∃ r1, zfR w v0 7 0 = some r1 ∧ (∃ x2, zfI w v0 7 2 = some x2 ∧ (zIs w r1 0 ∧ zCallI X d MX0_byteAt [.ref r1, .int x2] w (fun x4 w3 => if x4 = (-1) then (∃ w9, zsF w3 v0 7 1 (.int 0) = some w9 ∧ (∃ x10, zfI w9 v0 7 2 = some x10 ∧ (∃ w11, zsF w9 v0 7 3 (.int x10) = some w11 ∧ (Q none w11)))) else (if x4 < 97 then (zRn X d kc ks MX7_advance 117 [some (.ref v0), some (.int x4)] [] w3 Q) else (if 122 < x4 then (zRn X d kc ks MX7_advance 117 [some (.ref v0), some (.int x4)] [] w3 Q) else (∃ w5, zsF w3 v0 7 1 (.int 1) = some w5 ∧ (zIs w5 v0 7 ∧ zCallI X d MX7_runEnd [.ref v0, .int 97, .int 122] w5 (fun x7 w6 => ∃ w8, zsF w6 v0 7 3 (.int x7) = some w8 ∧ (Q none w8)))))))))) :
    zRn X d kc ks MX7_advance 52 [some (.ref v0), none] [] w Q := by
  refine z_aload_n v0 dX7_advance_52 rfl rfl ?_
  obtain ⟨r1, e, h⟩ := h
  refine zq_fR f_X7_15 dX7_advance_53 e ?_
  refine z_aload_n v0 dX7_advance_56 rfl rfl ?_
  obtain ⟨x2, e, h⟩ := h
  refine zq_fI f_X7_101 dX7_advance_57 e ?_
  refine zq_VI (N := MX0_byteAt) (As := [.int x2]) m_X7_105 dX7_advance_60 rfl rfl (Nat.le_of_ble_eq_true rfl) h (fun x4 w3 h => ?_)
  refine z_istore_n (i := 1) dX7_advance_63 rfl (by decide) rfl ?_
  refine z_iload_n x4 dX7_advance_64 rfl rfl ?_
  refine z_iconst (-1) dX7_advance_65 rfl ?_
  refine z_icmp_ne 85 dX7_advance_66 rfl (fun hc => ?_) (fun hc => ?_)
  · rw [if_neg hc] at h
    refine z_iload_n x4 dX7_advance_85 rfl rfl ?_
    refine z_bipush 97 dX7_advance_86 rfl ?_
    refine z_icmp_lt 117 dX7_advance_88 rfl (fun hc => ?_) (fun hc => ?_)
    · rw [if_pos hc] at h
      exact h
    · rw [if_neg hc] at h
      refine z_iload_n x4 dX7_advance_91 rfl rfl ?_
      refine z_bipush 122 dX7_advance_92 rfl ?_
      refine z_icmp_gt 117 dX7_advance_94 rfl (fun hc => ?_) (fun hc => ?_)
      · rw [if_pos hc] at h
        exact h
      · rw [if_neg hc] at h
        refine z_aload_n v0 dX7_advance_97 rfl rfl ?_
        refine z_iconst 1 dX7_advance_98 rfl ?_
        obtain ⟨w5, e, h⟩ := h
        refine zq_sF f_X7_48 dX7_advance_99 (fun _ => rfl) (fun _ => rfl) e ?_
        refine z_aload_n v0 dX7_advance_102 rfl rfl ?_
        refine z_aload_n v0 dX7_advance_103 rfl rfl ?_
        refine z_bipush 97 dX7_advance_104 rfl ?_
        refine z_bipush 122 dX7_advance_106 rfl ?_
        refine zq_VI (N := MX7_runEnd) (As := [.int 97, .int 122]) m_X7_125 dX7_advance_108 rfl rfl (Nat.le_of_ble_eq_true rfl) h (fun x7 w6 h => ?_)
        obtain ⟨w8, e, h⟩ := h
        refine zq_sF f_X7_22 dX7_advance_111 (fun _ => rfl) (fun _ => rfl) e ?_
        refine z_goto 164 dX7_advance_114 rfl ?_
        exact z_vreturn dX7_advance_164 rfl h
  · rw [if_pos hc] at h
    refine z_aload_n v0 dX7_advance_69 rfl rfl ?_
    refine z_iconst 0 dX7_advance_70 rfl ?_
    obtain ⟨w9, e, h⟩ := h
    refine zq_sF f_X7_48 dX7_advance_71 (fun _ => rfl) (fun _ => rfl) e ?_
    refine z_aload_n v0 dX7_advance_74 rfl rfl ?_
    refine z_aload_n v0 dX7_advance_75 rfl rfl ?_
    obtain ⟨x10, e, h⟩ := h
    refine zq_fI f_X7_101 dX7_advance_76 e ?_
    obtain ⟨w11, e, h⟩ := h
    refine zq_sF f_X7_22 dX7_advance_79 (fun _ => rfl) (fun _ => rfl) e ?_
    refine z_goto 164 dX7_advance_82 rfl ?_
    exact z_vreturn dX7_advance_164 rfl h
set_option maxRecDepth 100000 in
set_option maxHeartbeats 4000000 in
theorem bX7_advance_117 {X : zX} {d kc ks : Nat} {w : zW} {Q : Option Value → zW → Prop} (v0 : Nat) (v1 : Int32)
    (h : if v1 < 48 then (zRn X d kc ks MX7_advance 149 [some (.ref v0), none] [] w Q) else (if 57 < v1 then (zRn X d kc ks MX7_advance 149 [some (.ref v0), none] [] w Q) else (∃ w1, zsF w v0 7 1 (.int 2) = some w1 ∧ (zIs w1 v0 7 ∧ zCallI X d MX7_runEnd [.ref v0, .int 48, .int 57] w1 (fun x3 w2 => ∃ w4, zsF w2 v0 7 3 (.int x3) = some w4 ∧ (Q none w4)))))) :
    zRn X d kc ks MX7_advance 117 [some (.ref v0), some (.int v1)] [] w Q := by
  refine z_iload_n v1 dX7_advance_117 rfl rfl ?_
  refine z_bipush 48 dX7_advance_118 rfl ?_
  refine z_icmp_lt 149 dX7_advance_120 rfl (fun hc => ?_) (fun hc => ?_)
  · rw [if_pos hc] at h
    exact zRn.weak h (zLe_of [true, false] (And.intro rfl (And.intro rfl (trivial))))
  · rw [if_neg hc] at h
    refine z_iload_n v1 dX7_advance_123 rfl rfl ?_
    refine z_bipush 57 dX7_advance_124 rfl ?_
    refine z_icmp_gt 149 dX7_advance_126 rfl (fun hc => ?_) (fun hc => ?_)
    · rw [if_pos hc] at h
      exact zRn.weak h (zLe_of [true, false] (And.intro rfl (And.intro rfl (trivial))))
    · rw [if_neg hc] at h
      refine z_aload_n v0 dX7_advance_129 rfl rfl ?_
      refine z_iconst 2 dX7_advance_130 rfl ?_
      obtain ⟨w1, e, h⟩ := h
      refine zq_sF f_X7_48 dX7_advance_131 (fun _ => rfl) (fun _ => rfl) e ?_
      refine z_aload_n v0 dX7_advance_134 rfl rfl ?_
      refine z_aload_n v0 dX7_advance_135 rfl rfl ?_
      refine z_bipush 48 dX7_advance_136 rfl ?_
      refine z_bipush 57 dX7_advance_138 rfl ?_
      refine zq_VI (N := MX7_runEnd) (As := [.int 48, .int 57]) m_X7_125 dX7_advance_140 rfl rfl (Nat.le_of_ble_eq_true rfl) h (fun x3 w2 h => ?_)
      obtain ⟨w4, e, h⟩ := h
      refine zq_sF f_X7_22 dX7_advance_143 (fun _ => rfl) (fun _ => rfl) e ?_
      refine z_goto 164 dX7_advance_146 rfl ?_
      exact z_vreturn dX7_advance_164 rfl h
set_option maxRecDepth 100000 in
set_option maxHeartbeats 4000000 in
theorem bX7_advance_149 {X : zX} {d kc ks : Nat} {w : zW} {Q : Option Value → zW → Prop} (v0 : Nat)
    (h : ∃ w1, zsF w v0 7 1 (.int 3) = some w1 ∧ (∃ x2, zfI w1 v0 7 2 = some x2 ∧ (∃ w3, zsF w1 v0 7 3 (.int (x2 + 1)) = some w3 ∧ (Q none w3)))) :
    zRn X d kc ks MX7_advance 149 [some (.ref v0), none] [] w Q := by
  refine z_aload_n v0 dX7_advance_149 rfl rfl ?_
  refine z_iconst 3 dX7_advance_150 rfl ?_
  obtain ⟨w1, e, h⟩ := h
  refine zq_sF f_X7_48 dX7_advance_151 (fun _ => rfl) (fun _ => rfl) e ?_
  refine z_aload_n v0 dX7_advance_154 rfl rfl ?_
  refine z_aload_n v0 dX7_advance_155 rfl rfl ?_
  obtain ⟨x2, e, h⟩ := h
  refine zq_fI f_X7_101 dX7_advance_156 e ?_
  refine z_iconst 1 dX7_advance_159 rfl ?_
  refine z_iadd dX7_advance_160 ?_
  obtain ⟨w3, e, h⟩ := h
  refine zq_sF f_X7_22 dX7_advance_161 (fun _ => rfl) (fun _ => rfl) e ?_
  exact z_vreturn dX7_advance_164 rfl h
theorem eX7_advance {X : zX} {d kc ks : Nat} {w : zW} {Q : Option Value → zW → Prop} (p0 : Nat) (h : zRn X d kc ks MX7_advance 0 [some (.ref p0), none] [] w Q) : zEv X d kc ks MX7_advance [.ref p0] w Q :=
  zEv.of (by decide) (Nat.le_of_ble_eq_true rfl) (Or.inr (by simp [Value.category])) h
set_option maxRecDepth 100000 in
set_option maxHeartbeats 4000000 in
theorem bX7_isBlank_0 {X : zX} {d kc ks : Nat} {w : zW} {Q : Option Value → zW → Prop} (a0 : Int32)
    (h : if a0 = 32 then (zRn X d kc ks MX7_isBlank 12 [none] [] w Q) else (if a0 = 10 then (zRn X d kc ks MX7_isBlank 12 [none] [] w Q) else (Q (some (.int 0)) w))) :
    zRn X d kc ks MX7_isBlank 0 [some (.int a0)] [] w Q := by
  refine z_iload_n a0 dX7_isBlank_0 rfl rfl ?_
  refine z_bipush 32 dX7_isBlank_1 rfl ?_
  refine z_icmp_eq 12 dX7_isBlank_3 rfl (fun hc => ?_) (fun hc => ?_)
  · rw [if_pos hc] at h
    exact zRn.weak h (zLe_of [false] (And.intro rfl (trivial)))
  · rw [if_neg hc] at h
    refine z_iload_n a0 dX7_isBlank_6 rfl rfl ?_
    refine z_bipush 10 dX7_isBlank_7 rfl ?_
    refine z_icmp_ne 16 dX7_isBlank_9 rfl (fun hc => ?_) (fun hc => ?_)
    · rw [if_neg hc] at h
      refine z_iconst 0 dX7_isBlank_16 rfl ?_
      exact z_ireturn .boolean dX7_isBlank_17 rfl rfl h
    · rw [if_pos hc] at h
      exact zRn.weak h (zLe_of [false] (And.intro rfl (trivial)))
set_option maxRecDepth 100000 in
set_option maxHeartbeats 4000000 in
theorem bX7_isBlank_12 {X : zX} {d kc ks : Nat} {w : zW} {Q : Option Value → zW → Prop}
    (h : Q (some (.int 1)) w) :
    zRn X d kc ks MX7_isBlank 12 [none] [] w Q := by
  refine z_iconst 1 dX7_isBlank_12 rfl ?_
  refine z_goto 17 dX7_isBlank_13 rfl ?_
  exact z_ireturn .boolean dX7_isBlank_17 rfl rfl h
theorem eX7_isBlank {X : zX} {d kc ks : Nat} {w : zW} {Q : Option Value → zW → Prop} (a0 : Int32) (h : zRn X d kc ks MX7_isBlank 0 [some (.int a0)] [] w Q) : zEv X d kc ks MX7_isBlank [.int a0] w Q :=
  zEv.of (by decide) (Nat.le_of_ble_eq_true rfl) (Or.inr (by simp [Value.category])) h
set_option maxRecDepth 100000 in
set_option maxHeartbeats 4000000 in
theorem bX7_runEnd_0 {X : zX} {d kc ks : Nat} {w : zW} {Q : Option Value → zW → Prop} (p0 : Nat) (a1 : Int32) (a2 : Int32)
    (h : ∃ x1, zfI w p0 7 2 = some x1 ∧ (zRn X d kc ks MX7_runEnd 5 [some (.ref p0), some (.int a1), some (.int a2), some (.int x1)] [] w Q)) :
    zRn X d kc ks MX7_runEnd 0 [some (.ref p0), some (.int a1), some (.int a2), none] [] w Q := by
  refine z_aload_n p0 dX7_runEnd_0 rfl rfl ?_
  obtain ⟨x1, e, h⟩ := h
  refine zq_fI f_X7_101 dX7_runEnd_1 e ?_
  refine z_istore_n (i := 3) dX7_runEnd_4 rfl (by decide) rfl ?_
  exact h
set_option maxRecDepth 100000 in
set_option maxHeartbeats 4000000 in
theorem bX7_runEnd_5 {X : zX} {d kc ks : Nat} {w : zW} {Q : Option Value → zW → Prop} (v0 : Nat) (v1 : Int32) (v2 : Int32) (v3 : Int32)
    (h : ∃ r1, zfR w v0 7 0 = some r1 ∧ (zIs w r1 0 ∧ zCallI X d MX0_size [.ref r1] w (fun x3 w2 => if x3 ≤ v3 then (Q (some (.int v3)) w2) else (∃ r4, zfR w2 v0 7 0 = some r4 ∧ (zIs w2 r4 0 ∧ zCallI X d MX0_byteAt [.ref r4, .int v3] w2 (fun x6 w5 => if x6 < v1 then (Q (some (.int v3)) w5) else (∃ r7, zfR w5 v0 7 0 = some r7 ∧ (zIs w5 r7 0 ∧ zCallI X d MX0_byteAt [.ref r7, .int v3] w5 (fun x9 w8 => if v2 < x9 then (Q (some (.int v3)) w8) else (zRn X d kc ks MX7_runEnd 5 [some (.ref v0), some (.int v1), some (.int v2), some (.int (v3 + 1))] [] w8 Q)))))))))) :
    zRn X d kc ks MX7_runEnd 5 [some (.ref v0), some (.int v1), some (.int v2), some (.int v3)] [] w Q := by
  refine z_iload_n v3 dX7_runEnd_5 rfl rfl ?_
  refine z_aload_n v0 dX7_runEnd_6 rfl rfl ?_
  obtain ⟨r1, e, h⟩ := h
  refine zq_fR f_X7_15 dX7_runEnd_7 e ?_
  refine zq_VI (N := MX0_size) (As := []) m_X7_121 dX7_runEnd_10 rfl rfl (Nat.le_of_ble_eq_true rfl) h (fun x3 w2 h => ?_)
  refine z_icmp_ge 46 dX7_runEnd_13 rfl (fun hc => ?_) (fun hc => ?_)
  · rw [if_pos hc] at h
    refine z_iload_n v3 dX7_runEnd_46 rfl rfl ?_
    exact z_ireturn .int dX7_runEnd_47 rfl rfl h
  · rw [if_neg hc] at h
    refine z_aload_n v0 dX7_runEnd_16 rfl rfl ?_
    obtain ⟨r4, e, h⟩ := h
    refine zq_fR f_X7_15 dX7_runEnd_17 e ?_
    refine z_iload_n v3 dX7_runEnd_20 rfl rfl ?_
    refine zq_VI (N := MX0_byteAt) (As := [.int v3]) m_X7_105 dX7_runEnd_21 rfl rfl (Nat.le_of_ble_eq_true rfl) h (fun x6 w5 h => ?_)
    refine z_iload_n v1 dX7_runEnd_24 rfl rfl ?_
    refine z_icmp_lt 46 dX7_runEnd_25 rfl (fun hc => ?_) (fun hc => ?_)
    · rw [if_pos hc] at h
      refine z_iload_n v3 dX7_runEnd_46 rfl rfl ?_
      exact z_ireturn .int dX7_runEnd_47 rfl rfl h
    · rw [if_neg hc] at h
      refine z_aload_n v0 dX7_runEnd_28 rfl rfl ?_
      obtain ⟨r7, e, h⟩ := h
      refine zq_fR f_X7_15 dX7_runEnd_29 e ?_
      refine z_iload_n v3 dX7_runEnd_32 rfl rfl ?_
      refine zq_VI (N := MX0_byteAt) (As := [.int v3]) m_X7_105 dX7_runEnd_33 rfl rfl (Nat.le_of_ble_eq_true rfl) h (fun x9 w8 h => ?_)
      refine z_iload_n v2 dX7_runEnd_36 rfl rfl ?_
      refine z_icmp_gt 46 dX7_runEnd_37 rfl (fun hc => ?_) (fun hc => ?_)
      · rw [if_pos hc] at h
        refine z_iload_n v3 dX7_runEnd_46 rfl rfl ?_
        exact z_ireturn .int dX7_runEnd_47 rfl rfl h
      · rw [if_neg hc] at h
        refine z_iinc (i := 3) v3 (v3 + 1) dX7_runEnd_40 rfl rfl (by decide) rfl ?_
        refine z_goto 5 dX7_runEnd_43 rfl ?_
        exact h
theorem eX7_runEnd {X : zX} {d kc ks : Nat} {w : zW} {Q : Option Value → zW → Prop} (p0 : Nat) (a1 : Int32) (a2 : Int32) (h : zRn X d kc ks MX7_runEnd 0 [some (.ref p0), some (.int a1), some (.int a2), none] [] w Q) : zEv X d kc ks MX7_runEnd [.ref p0, .int a1, .int a2] w Q :=
  zEv.of (by decide) (Nat.le_of_ble_eq_true rfl) (Or.inr (by simp [Value.category])) h
set_option maxRecDepth 100000 in
set_option maxHeartbeats 4000000 in
theorem bX7_readHead_0 {X : zX} {d kc ks : Nat} {w : zW} {Q : Option Value → zW → Prop} (p0 : Nat) (p1 : Nat)
    (h : zIs w p0 7 ∧ zCallI X d MX7_isWord [.ref p0, .ref (zTx 0)] w (fun x2 w1 => if x2 = 0 then (zIs w1 p0 7 ∧ zCallI X d MX7_refuse [.ref p0, .int 1] w1 (fun x12 w11 => zBool x12 ∧ Q (some (.int x12)) w11)) else (zIs w1 p0 7 ∧ zCallV X d MX7_advance [.ref p0] w1 (fun w3 => ∃ x4, zfI w3 p0 7 1 = some x4 ∧ (if x4 = 2 then (zIs w3 p0 7 ∧ zCallI X d MX7_number [.ref p0] w3 (fun x6 w5 => if x6 < 1 then (zRn X d kc ks MX7_readHead 49 [some (.ref p0), none, none] [] w5 Q) else (if x6 ≤ 8 then (zIs w5 p1 5 ∧ zCallV X d MX5_begin [.ref p1, .int x6] w5 (fun w7 => zIs w7 p0 7 ∧ zCallV X d MX7_advance [.ref p0] w7 (fun w8 => Q (some (.int 1)) w8))) else (zRn X d kc ks MX7_readHead 49 [some (.ref p0), none, none] [] w5 Q)))) else (zIs w3 p0 7 ∧ zCallI X d MX7_refuse [.ref p0, .int 1] w3 (fun x10 w9 => zBool x10 ∧ Q (some (.int x10)) w9))))))) :
    zRn X d kc ks MX7_readHead 0 [some (.ref p0), some (.ref p1), none] [] w Q := by
  refine z_aload_n p0 dX7_readHead_0 rfl rfl ?_
  refine z_ldcS (q := 0) rfl dX7_readHead_1 ?_
  refine zq_VI (N := MX7_isWord) (As := [.ref (zTx 0)]) m_X7_40 dX7_readHead_3 rfl rfl (Nat.le_of_ble_eq_true rfl) h (fun x2 w1 h => ?_)
  refine z_if_ne 15 dX7_readHead_6 rfl (fun hc => ?_) (fun hc => ?_)
  · rw [if_neg hc] at h
    refine z_aload_n p0 dX7_readHead_15 rfl rfl ?_
    refine zq_VV (N := MX7_advance) (As := []) m_X7_25 dX7_readHead_16 rfl rfl (Nat.le_of_ble_eq_true rfl) h (fun w3 h => ?_)
    refine z_aload_n p0 dX7_readHead_19 rfl rfl ?_
    obtain ⟨x4, e, h⟩ := h
    refine zq_fI f_X7_48 dX7_readHead_20 e ?_
    refine z_iconst 2 dX7_readHead_23 rfl ?_
    refine z_icmp_eq 33 dX7_readHead_24 rfl (fun hc => ?_) (fun hc => ?_)
    · rw [if_pos hc] at h
      refine z_aload_n p0 dX7_readHead_33 rfl rfl ?_
      refine zq_VI (N := MX7_number) (As := []) m_X7_51 dX7_readHead_34 rfl rfl (Nat.le_of_ble_eq_true rfl) h (fun x6 w5 h => ?_)
      refine z_istore_n (i := 2) dX7_readHead_37 rfl (by decide) rfl ?_
      refine z_iload_n x6 dX7_readHead_38 rfl rfl ?_
      refine z_iconst 1 dX7_readHead_39 rfl ?_
      refine z_icmp_lt 49 dX7_readHead_40 rfl (fun hc => ?_) (fun hc => ?_)
      · rw [if_pos hc] at h
        exact zRn.weak h (zLe_of [true, false, false] (And.intro rfl (And.intro rfl (And.intro rfl (trivial)))))
      · rw [if_neg hc] at h
        refine z_iload_n x6 dX7_readHead_43 rfl rfl ?_
        refine z_bipush 8 dX7_readHead_44 rfl ?_
        refine z_icmp_le 55 dX7_readHead_46 rfl (fun hc => ?_) (fun hc => ?_)
        · rw [if_pos hc] at h
          refine z_aload_n p1 dX7_readHead_55 rfl rfl ?_
          refine z_iload_n x6 dX7_readHead_56 rfl rfl ?_
          refine zq_VV (N := MX5_begin) (As := [.int x6]) m_X7_55 dX7_readHead_57 rfl rfl (Nat.le_of_ble_eq_true rfl) h (fun w7 h => ?_)
          refine z_aload_n p0 dX7_readHead_60 rfl rfl ?_
          refine zq_VV (N := MX7_advance) (As := []) m_X7_25 dX7_readHead_61 rfl rfl (Nat.le_of_ble_eq_true rfl) h (fun w8 h => ?_)
          refine z_iconst 1 dX7_readHead_64 rfl ?_
          exact z_ireturn .boolean dX7_readHead_65 rfl rfl h
        · rw [if_neg hc] at h
          exact zRn.weak h (zLe_of [true, false, false] (And.intro rfl (And.intro rfl (And.intro rfl (trivial)))))
    · rw [if_neg hc] at h
      refine z_aload_n p0 dX7_readHead_27 rfl rfl ?_
      refine z_iconst 1 dX7_readHead_28 rfl ?_
      refine zq_VI (N := MX7_refuse) (As := [.int 1]) m_X7_44 dX7_readHead_29 rfl rfl (Nat.le_of_ble_eq_true rfl) h (fun x10 w9 h => ?_)
      exact z_ireturn .boolean dX7_readHead_32 rfl (zBool_n h.1) h.2
  · rw [if_pos hc] at h
    refine z_aload_n p0 dX7_readHead_9 rfl rfl ?_
    refine z_iconst 1 dX7_readHead_10 rfl ?_
    refine zq_VI (N := MX7_refuse) (As := [.int 1]) m_X7_44 dX7_readHead_11 rfl rfl (Nat.le_of_ble_eq_true rfl) h (fun x12 w11 h => ?_)
    exact z_ireturn .boolean dX7_readHead_14 rfl (zBool_n h.1) h.2
set_option maxRecDepth 100000 in
set_option maxHeartbeats 4000000 in
theorem bX7_readHead_49 {X : zX} {d kc ks : Nat} {w : zW} {Q : Option Value → zW → Prop} (v0 : Nat)
    (h : zIs w v0 7 ∧ zCallI X d MX7_refuse [.ref v0, .int 2] w (fun x2 w1 => zBool x2 ∧ Q (some (.int x2)) w1)) :
    zRn X d kc ks MX7_readHead 49 [some (.ref v0), none, none] [] w Q := by
  refine z_aload_n v0 dX7_readHead_49 rfl rfl ?_
  refine z_iconst 2 dX7_readHead_50 rfl ?_
  refine zq_VI (N := MX7_refuse) (As := [.int 2]) m_X7_44 dX7_readHead_51 rfl rfl (Nat.le_of_ble_eq_true rfl) h (fun x2 w1 h => ?_)
  exact z_ireturn .boolean dX7_readHead_54 rfl (zBool_n h.1) h.2
theorem eX7_readHead {X : zX} {d kc ks : Nat} {w : zW} {Q : Option Value → zW → Prop} (p0 : Nat) (p1 : Nat) (h : zRn X d kc ks MX7_readHead 0 [some (.ref p0), some (.ref p1), none] [] w Q) : zEv X d kc ks MX7_readHead [.ref p0, .ref p1] w Q :=
  zEv.of (by decide) (Nat.le_of_ble_eq_true rfl) (Or.inr (by simp [Value.category])) h
set_option maxRecDepth 100000 in
set_option maxHeartbeats 4000000 in
theorem bX7_isWord_0 {X : zX} {d kc ks : Nat} {w : zW} {Q : Option Value → zW → Prop} (p0 : Nat) (p1 : Nat)
    (h : ∃ x1, zfI w p0 7 1 = some x1 ∧ (if x1 = 1 then (∃ x2, zfI w p0 7 3 = some x2 ∧ (∃ x3, zfI w p0 7 2 = some x3 ∧ (5 < d ∧ ∃ x4, zTL p1 = some x4 ∧ (if (x2 - x3) = x4 then (zRn X d kc ks MX7_isWord 28 [some (.ref p0), some (.ref p1), some (.int 0)] [] w Q) else (Q (some (.int 0)) w))))) else (Q (some (.int 0)) w))) :
    zRn X d kc ks MX7_isWord 0 [some (.ref p0), some (.ref p1), none] [] w Q := by
  refine z_aload_n p0 dX7_isWord_0 rfl rfl ?_
  obtain ⟨x1, e, h⟩ := h
  refine zq_fI f_X7_48 dX7_isWord_1 e ?_
  refine z_iconst 1 dX7_isWord_4 rfl ?_
  refine z_icmp_ne 24 dX7_isWord_5 rfl (fun hc => ?_) (fun hc => ?_)
  · rw [if_neg hc] at h
    refine z_iconst 0 dX7_isWord_24 rfl ?_
    exact z_ireturn .boolean dX7_isWord_25 rfl rfl h
  · rw [if_pos hc] at h
    refine z_aload_n p0 dX7_isWord_8 rfl rfl ?_
    obtain ⟨x2, e, h⟩ := h
    refine zq_fI f_X7_22 dX7_isWord_9 e ?_
    refine z_aload_n p0 dX7_isWord_12 rfl rfl ?_
    obtain ⟨x3, e, h⟩ := h
    refine zq_fI f_X7_101 dX7_isWord_13 e ?_
    refine z_isub dX7_isWord_16 ?_
    refine z_aload_n p1 dX7_isWord_17 rfl rfl ?_
    obtain ⟨hd0, x4, e, h⟩ := h
    refine zq_len mt_X7_128 dX7_isWord_18 (Nat.le_of_ble_eq_true rfl) hd0 e ?_
    refine z_icmp_eq 26 dX7_isWord_21 rfl (fun hc => ?_) (fun hc => ?_)
    · rw [if_pos hc] at h
      refine z_iconst 0 dX7_isWord_26 rfl ?_
      refine z_istore_n (i := 2) dX7_isWord_27 rfl (by decide) rfl ?_
      exact h
    · rw [if_neg hc] at h
      refine z_iconst 0 dX7_isWord_24 rfl ?_
      exact z_ireturn .boolean dX7_isWord_25 rfl rfl h
set_option maxRecDepth 100000 in
set_option maxHeartbeats 4000000 in
theorem bX7_isWord_28 {X : zX} {d kc ks : Nat} {w : zW} {Q : Option Value → zW → Prop} (v0 : Nat) (v1 : Nat) (v2 : Int32)
    (h : 5 < d ∧ ∃ x1, zTL v1 = some x1 ∧ (if x1 ≤ v2 then (Q (some (.int 1)) w) else (∃ r3, zfR w v0 7 0 = some r3 ∧ (∃ x4, zfI w v0 7 2 = some x4 ∧ (zIs w r3 0 ∧ zCallI X d MX0_byteAt [.ref r3, .int (x4 + v2)] w (fun x6 w5 => 5 < d ∧ ∃ x7, zTC v1 v2 = some x7 ∧ (if x6 = x7 then (zRn X d kc ks MX7_isWord 28 [some (.ref v0), some (.ref v1), some (.int (v2 + 1))] [] w5 Q) else (Q (some (.int 0)) w5)))))))) :
    zRn X d kc ks MX7_isWord 28 [some (.ref v0), some (.ref v1), some (.int v2)] [] w Q := by
  refine z_iload_n v2 dX7_isWord_28 rfl rfl ?_
  refine z_aload_n v1 dX7_isWord_29 rfl rfl ?_
  obtain ⟨hd0, x1, e, h⟩ := h
  refine zq_len mt_X7_128 dX7_isWord_30 (Nat.le_of_ble_eq_true rfl) hd0 e ?_
  refine z_icmp_ge 65 dX7_isWord_33 rfl (fun hc => ?_) (fun hc => ?_)
  · rw [if_pos hc] at h
    refine z_iconst 1 dX7_isWord_65 rfl ?_
    exact z_ireturn .boolean dX7_isWord_66 rfl rfl h
  · rw [if_neg hc] at h
    refine z_aload_n v0 dX7_isWord_36 rfl rfl ?_
    obtain ⟨r3, e, h⟩ := h
    refine zq_fR f_X7_15 dX7_isWord_37 e ?_
    refine z_aload_n v0 dX7_isWord_40 rfl rfl ?_
    obtain ⟨x4, e, h⟩ := h
    refine zq_fI f_X7_101 dX7_isWord_41 e ?_
    refine z_iload_n v2 dX7_isWord_44 rfl rfl ?_
    refine z_iadd dX7_isWord_45 ?_
    refine zq_VI (N := MX0_byteAt) (As := [.int (x4 + v2)]) m_X7_105 dX7_isWord_46 rfl rfl (Nat.le_of_ble_eq_true rfl) h (fun x6 w5 h => ?_)
    refine z_aload_n v1 dX7_isWord_49 rfl rfl ?_
    refine z_iload_n v2 dX7_isWord_50 rfl rfl ?_
    obtain ⟨hd0, x7, e, h⟩ := h
    refine zq_chr mt_X7_133 dX7_isWord_51 (Nat.le_of_ble_eq_true rfl) hd0 e ?_
    refine z_icmp_eq 59 dX7_isWord_54 rfl (fun hc => ?_) (fun hc => ?_)
    · rw [if_pos hc] at h
      refine z_iinc (i := 2) v2 (v2 + 1) dX7_isWord_59 rfl rfl (by decide) rfl ?_
      refine z_goto 28 dX7_isWord_62 rfl ?_
      exact h
    · rw [if_neg hc] at h
      refine z_iconst 0 dX7_isWord_57 rfl ?_
      exact z_ireturn .boolean dX7_isWord_58 rfl rfl h
theorem eX7_isWord {X : zX} {d kc ks : Nat} {w : zW} {Q : Option Value → zW → Prop} (p0 : Nat) (p1 : Nat) (h : zRn X d kc ks MX7_isWord 0 [some (.ref p0), some (.ref p1), none] [] w Q) : zEv X d kc ks MX7_isWord [.ref p0, .ref p1] w Q :=
  zEv.of (by decide) (Nat.le_of_ble_eq_true rfl) (Or.inr (by simp [Value.category])) h
set_option maxRecDepth 100000 in
set_option maxHeartbeats 4000000 in
theorem bX7_refuse_0 {X : zX} {d kc ks : Nat} {w : zW} {Q : Option Value → zW → Prop} (p0 : Nat) (a1 : Int32)
    (h : ∃ w1, zsF w p0 7 4 (.int a1) = some w1 ∧ (∃ x2, zfI w1 p0 7 2 = some x2 ∧ (∃ w3, zsF w1 p0 7 5 (.int x2) = some w3 ∧ (Q (some (.int 0)) w3)))) :
    zRn X d kc ks MX7_refuse 0 [some (.ref p0), some (.int a1)] [] w Q := by
  refine z_aload_n p0 dX7_refuse_0 rfl rfl ?_
  refine z_iload_n a1 dX7_refuse_1 rfl rfl ?_
  obtain ⟨w1, e, h⟩ := h
  refine zq_sF f_X7_19 dX7_refuse_2 (fun _ => rfl) (fun _ => rfl) e ?_
  refine z_aload_n p0 dX7_refuse_5 rfl rfl ?_
  refine z_aload_n p0 dX7_refuse_6 rfl rfl ?_
  obtain ⟨x2, e, h⟩ := h
  refine zq_fI f_X7_101 dX7_refuse_7 e ?_
  obtain ⟨w3, e, h⟩ := h
  refine zq_sF f_X7_9 dX7_refuse_10 (fun _ => rfl) (fun _ => rfl) e ?_
  refine z_iconst 0 dX7_refuse_13 rfl ?_
  exact z_ireturn .boolean dX7_refuse_14 rfl rfl h
theorem eX7_refuse {X : zX} {d kc ks : Nat} {w : zW} {Q : Option Value → zW → Prop} (p0 : Nat) (a1 : Int32) (h : zRn X d kc ks MX7_refuse 0 [some (.ref p0), some (.int a1)] [] w Q) : zEv X d kc ks MX7_refuse [.ref p0, .int a1] w Q :=
  zEv.of (by decide) (Nat.le_of_ble_eq_true rfl) (Or.inr (by simp [Value.category])) h
set_option maxRecDepth 100000 in
set_option maxHeartbeats 4000000 in
theorem bX7_number_0 {X : zX} {d kc ks : Nat} {w : zW} {Q : Option Value → zW → Prop} (p0 : Nat)
    (h : ∃ x1, zfI w p0 7 2 = some x1 ∧ (zRn X d kc ks MX7_number 7 [some (.ref p0), some (.int 0), some (.int x1)] [] w Q)) :
    zRn X d kc ks MX7_number 0 [some (.ref p0), none, none] [] w Q := by
  refine z_iconst 0 dX7_number_0 rfl ?_
  refine z_istore_n (i := 1) dX7_number_1 rfl (by decide) rfl ?_
  refine z_aload_n p0 dX7_number_2 rfl rfl ?_
  obtain ⟨x1, e, h⟩ := h
  refine zq_fI f_X7_101 dX7_number_3 e ?_
  refine z_istore_n (i := 2) dX7_number_6 rfl (by decide) rfl ?_
  exact h
set_option maxRecDepth 100000 in
set_option maxHeartbeats 4000000 in
theorem bX7_number_7 {X : zX} {d kc ks : Nat} {w : zW} {Q : Option Value → zW → Prop} (v0 : Nat) (v1 : Int32) (v2 : Int32)
    (h : ∃ x1, zfI w v0 7 3 = some x1 ∧ (if x1 ≤ v2 then (Q (some (.int v1)) w) else (∃ r2, zfR w v0 7 0 = some r2 ∧ (zIs w r2 0 ∧ zCallI X d MX0_byteAt [.ref r2, .int v2] w (fun x4 w3 => 0 < d ∧ (zRn X d kc ks MX7_number 7 [some (.ref v0), some (.int (if 1000 < (((v1 * 10) + x4) - 48) then 1000 else (((v1 * 10) + x4) - 48))), some (.int (v2 + 1))] [] w3 Q)))))) :
    zRn X d kc ks MX7_number 7 [some (.ref v0), some (.int v1), some (.int v2)] [] w Q := by
  refine z_iload_n v2 dX7_number_7 rfl rfl ?_
  refine z_aload_n v0 dX7_number_8 rfl rfl ?_
  obtain ⟨x1, e, h⟩ := h
  refine zq_fI f_X7_22 dX7_number_9 e ?_
  refine z_icmp_ge 44 dX7_number_12 rfl (fun hc => ?_) (fun hc => ?_)
  · rw [if_pos hc] at h
    refine z_iload_n v1 dX7_number_44 rfl rfl ?_
    exact z_ireturn .int dX7_number_45 rfl rfl h
  · rw [if_neg hc] at h
    refine z_iload_n v1 dX7_number_15 rfl rfl ?_
    refine z_bipush 10 dX7_number_16 rfl ?_
    refine z_imul dX7_number_18 ?_
    refine z_aload_n v0 dX7_number_19 rfl rfl ?_
    obtain ⟨r2, e, h⟩ := h
    refine zq_fR f_X7_15 dX7_number_20 e ?_
    refine z_iload_n v2 dX7_number_23 rfl rfl ?_
    refine zq_VI (N := MX0_byteAt) (As := [.int v2]) m_X7_105 dX7_number_24 rfl rfl (Nat.le_of_ble_eq_true rfl) h (fun x4 w3 h => ?_)
    refine z_iadd dX7_number_27 ?_
    refine z_bipush 48 dX7_number_28 rfl ?_
    refine z_isub dX7_number_30 ?_
    refine z_sipush 1000 dX7_number_31 rfl ?_
    refine z_mmin g_452 g_453 g_106 g_454 dX7_number_34 (Nat.le_of_ble_eq_true rfl) h.1 ?_
    have h := h.2
    refine z_istore_n (i := 1) dX7_number_37 rfl (by decide) rfl ?_
    refine z_iinc (i := 2) v2 (v2 + 1) dX7_number_38 rfl rfl (by decide) rfl ?_
    refine z_goto 7 dX7_number_41 rfl ?_
    exact h
theorem eX7_number {X : zX} {d kc ks : Nat} {w : zW} {Q : Option Value → zW → Prop} (p0 : Nat) (h : zRn X d kc ks MX7_number 0 [some (.ref p0), none, none] [] w Q) : zEv X d kc ks MX7_number [.ref p0] w Q :=
  zEv.of (by decide) (Nat.le_of_ble_eq_true rfl) (Or.inr (by simp [Value.category])) h
set_option maxRecDepth 100000 in
set_option maxHeartbeats 4000000 in
theorem bX7_readTwos_0 {X : zX} {d kc ks : Nat} {w : zW} {Q : Option Value → zW → Prop} (p0 : Nat) (p1 : Nat)
    (h : zIs w p0 7 ∧ zCallI X d MX7_isSign [.ref p0, .int 58] w (fun x2 w1 => zRn X d kc ks MX7_readTwos 9 [some (.ref p0), some (.ref p1), some (.int x2), some (.int 0)] [] w1 Q)) :
    zRn X d kc ks MX7_readTwos 0 [some (.ref p0), some (.ref p1), none, none] [] w Q := by
  refine z_aload_n p0 dX7_readTwos_0 rfl rfl ?_
  refine z_bipush 58 dX7_readTwos_1 rfl ?_
  refine zq_VI (N := MX7_isSign) (As := [.int 58]) m_X7_61 dX7_readTwos_3 rfl rfl (Nat.le_of_ble_eq_true rfl) h (fun x2 w1 h => ?_)
  refine z_istore_n (i := 2) dX7_readTwos_6 rfl (by decide) rfl ?_
  refine z_iconst 0 dX7_readTwos_7 rfl ?_
  refine z_istore_n (i := 3) dX7_readTwos_8 rfl (by decide) rfl ?_
  exact h
set_option maxRecDepth 100000 in
set_option maxHeartbeats 4000000 in
theorem bX7_readTwos_9 {X : zX} {d kc ks : Nat} {w : zW} {Q : Option Value → zW → Prop} (v0 : Nat) (v1 : Nat) (v2 : Int32) (v3 : Int32)
    (h : if v2 = 0 then (zRn X d kc ks MX7_readTwos 47 [some (.ref v0), none, none, none] [] w Q) else (if 400 ≤ v3 then (zRn X d kc ks MX7_readTwos 47 [some (.ref v0), none, none, none] [] w Q) else (zIs w v0 7 ∧ zCallV X d MX7_advance [.ref v0] w (fun w1 => zIs w1 v0 7 ∧ zCallI X d MX7_readClimb [.ref v0, .ref v1] w1 (fun x3 w2 => if x3 = 0 then (Q (some (.int 0)) w2) else (zIs w2 v0 7 ∧ zCallI X d MX7_isSign [.ref v0, .int 44] w2 (fun x5 w4 => zRn X d kc ks MX7_readTwos 9 [some (.ref v0), some (.ref v1), some (.int x5), some (.int (v3 + 1))] [] w4 Q))))))) :
    zRn X d kc ks MX7_readTwos 9 [some (.ref v0), some (.ref v1), some (.int v2), some (.int v3)] [] w Q := by
  refine z_iload_n v2 dX7_readTwos_9 rfl rfl ?_
  refine z_if_eq 47 dX7_readTwos_10 rfl (fun hc => ?_) (fun hc => ?_)
  · rw [if_pos hc] at h
    exact zRn.weak h (zLe_of [true, false, false, false] (And.intro rfl (And.intro rfl (And.intro rfl (And.intro rfl (trivial))))))
  · rw [if_neg hc] at h
    refine z_iload_n v3 dX7_readTwos_13 rfl rfl ?_
    refine z_sipush 400 dX7_readTwos_14 rfl ?_
    refine z_icmp_ge 47 dX7_readTwos_17 rfl (fun hc => ?_) (fun hc => ?_)
    · rw [if_pos hc] at h
      exact zRn.weak h (zLe_of [true, false, false, false] (And.intro rfl (And.intro rfl (And.intro rfl (And.intro rfl (trivial))))))
    · rw [if_neg hc] at h
      refine z_aload_n v0 dX7_readTwos_20 rfl rfl ?_
      refine zq_VV (N := MX7_advance) (As := []) m_X7_25 dX7_readTwos_21 rfl rfl (Nat.le_of_ble_eq_true rfl) h (fun w1 h => ?_)
      refine z_aload_n v0 dX7_readTwos_24 rfl rfl ?_
      refine z_aload_n v1 dX7_readTwos_25 rfl rfl ?_
      refine zq_VI (N := MX7_readClimb) (As := [.ref v1]) m_X7_64 dX7_readTwos_26 rfl rfl (Nat.le_of_ble_eq_true rfl) h (fun x3 w2 h => ?_)
      refine z_if_ne 34 dX7_readTwos_29 rfl (fun hc => ?_) (fun hc => ?_)
      · rw [if_neg hc] at h
        refine z_aload_n v0 dX7_readTwos_34 rfl rfl ?_
        refine z_bipush 44 dX7_readTwos_35 rfl ?_
        refine zq_VI (N := MX7_isSign) (As := [.int 44]) m_X7_61 dX7_readTwos_37 rfl rfl (Nat.le_of_ble_eq_true rfl) h (fun x5 w4 h => ?_)
        refine z_istore_n (i := 2) dX7_readTwos_40 rfl (by decide) rfl ?_
        refine z_iinc (i := 3) v3 (v3 + 1) dX7_readTwos_41 rfl rfl (by decide) rfl ?_
        refine z_goto 9 dX7_readTwos_44 rfl ?_
        exact h
      · rw [if_pos hc] at h
        refine z_iconst 0 dX7_readTwos_32 rfl ?_
        exact z_ireturn .boolean dX7_readTwos_33 rfl rfl h
set_option maxRecDepth 100000 in
set_option maxHeartbeats 4000000 in
theorem bX7_readTwos_47 {X : zX} {d kc ks : Nat} {w : zW} {Q : Option Value → zW → Prop} (v0 : Nat)
    (h : zIs w v0 7 ∧ zCallI X d MX7_passSemicolon [.ref v0] w (fun x2 w1 => zBool x2 ∧ Q (some (.int x2)) w1)) :
    zRn X d kc ks MX7_readTwos 47 [some (.ref v0), none, none, none] [] w Q := by
  refine z_aload_n v0 dX7_readTwos_47 rfl rfl ?_
  refine zq_VI (N := MX7_passSemicolon) (As := []) m_X7_67 dX7_readTwos_48 rfl rfl (Nat.le_of_ble_eq_true rfl) h (fun x2 w1 h => ?_)
  exact z_ireturn .boolean dX7_readTwos_51 rfl (zBool_n h.1) h.2
theorem eX7_readTwos {X : zX} {d kc ks : Nat} {w : zW} {Q : Option Value → zW → Prop} (p0 : Nat) (p1 : Nat) (h : zRn X d kc ks MX7_readTwos 0 [some (.ref p0), some (.ref p1), none, none] [] w Q) : zEv X d kc ks MX7_readTwos [.ref p0, .ref p1] w Q :=
  zEv.of (by decide) (Nat.le_of_ble_eq_true rfl) (Or.inr (by simp [Value.category])) h
set_option maxRecDepth 100000 in
set_option maxHeartbeats 4000000 in
theorem bX7_isSign_0 {X : zX} {d kc ks : Nat} {w : zW} {Q : Option Value → zW → Prop} (p0 : Nat) (a1 : Int32)
    (h : ∃ x1, zfI w p0 7 1 = some x1 ∧ (if x1 = 3 then (∃ r2, zfR w p0 7 0 = some r2 ∧ (∃ x3, zfI w p0 7 2 = some x3 ∧ (zIs w r2 0 ∧ zCallI X d MX0_byteAt [.ref r2, .int x3] w (fun x5 w4 => if x5 = a1 then (Q (some (.int 1)) w4) else (Q (some (.int 0)) w4))))) else (Q (some (.int 0)) w))) :
    zRn X d kc ks MX7_isSign 0 [some (.ref p0), some (.int a1)] [] w Q := by
  refine z_aload_n p0 dX7_isSign_0 rfl rfl ?_
  obtain ⟨x1, e, h⟩ := h
  refine zq_fI f_X7_48 dX7_isSign_1 e ?_
  refine z_iconst 3 dX7_isSign_4 rfl ?_
  refine z_icmp_ne 27 dX7_isSign_5 rfl (fun hc => ?_) (fun hc => ?_)
  · rw [if_neg hc] at h
    refine z_iconst 0 dX7_isSign_27 rfl ?_
    exact z_ireturn .boolean dX7_isSign_28 rfl rfl h
  · rw [if_pos hc] at h
    refine z_aload_n p0 dX7_isSign_8 rfl rfl ?_
    obtain ⟨r2, e, h⟩ := h
    refine zq_fR f_X7_15 dX7_isSign_9 e ?_
    refine z_aload_n p0 dX7_isSign_12 rfl rfl ?_
    obtain ⟨x3, e, h⟩ := h
    refine zq_fI f_X7_101 dX7_isSign_13 e ?_
    refine zq_VI (N := MX0_byteAt) (As := [.int x3]) m_X7_105 dX7_isSign_16 rfl rfl (Nat.le_of_ble_eq_true rfl) h (fun x5 w4 h => ?_)
    refine z_iload_n a1 dX7_isSign_19 rfl rfl ?_
    refine z_icmp_ne 27 dX7_isSign_20 rfl (fun hc => ?_) (fun hc => ?_)
    · rw [if_neg hc] at h
      refine z_iconst 0 dX7_isSign_27 rfl ?_
      exact z_ireturn .boolean dX7_isSign_28 rfl rfl h
    · rw [if_pos hc] at h
      refine z_iconst 1 dX7_isSign_23 rfl ?_
      refine z_goto 28 dX7_isSign_24 rfl ?_
      exact z_ireturn .boolean dX7_isSign_28 rfl rfl h
theorem eX7_isSign {X : zX} {d kc ks : Nat} {w : zW} {Q : Option Value → zW → Prop} (p0 : Nat) (a1 : Int32) (h : zRn X d kc ks MX7_isSign 0 [some (.ref p0), some (.int a1)] [] w Q) : zEv X d kc ks MX7_isSign [.ref p0, .int a1] w Q :=
  zEv.of (by decide) (Nat.le_of_ble_eq_true rfl) (Or.inr (by simp [Value.category])) h
set_option maxRecDepth 100000 in
set_option maxHeartbeats 4000000 in
theorem bX7_readClimb_0 {X : zX} {d kc ks : Nat} {w : zW} {Q : Option Value → zW → Prop} (p0 : Nat) (p1 : Nat)
    (h : zIs w p0 7 ∧ zCallI X d MX7_thingHere [.ref p0, .ref p1] w (fun x2 w1 => if x2 = (-1) then (Q (some (.int 0)) w1) else (zIs w1 p0 7 ∧ zCallV X d MX7_advance [.ref p0] w1 (fun w3 => zIs w3 p0 7 ∧ zCallI X d MX7_isSign [.ref p0, .int 60] w3 (fun x5 w4 => if x5 = 0 then (zIs w4 p0 7 ∧ zCallI X d MX7_refuse [.ref p0, .int 1] w4 (fun x7 w6 => zBool x7 ∧ Q (some (.int x7)) w6)) else (zRn X d kc ks MX7_readClimb 34 [some (.ref p0), some (.ref p1), some (.int x2), some (.int 0), none] [] w4 Q)))))) :
    zRn X d kc ks MX7_readClimb 0 [some (.ref p0), some (.ref p1), none, none, none] [] w Q := by
  refine z_aload_n p0 dX7_readClimb_0 rfl rfl ?_
  refine z_aload_n p1 dX7_readClimb_1 rfl rfl ?_
  refine zq_VI (N := MX7_thingHere) (As := [.ref p1]) m_X7_71 dX7_readClimb_2 rfl rfl (Nat.le_of_ble_eq_true rfl) h (fun x2 w1 h => ?_)
  refine z_istore_n (i := 2) dX7_readClimb_5 rfl (by decide) rfl ?_
  refine z_iload_n x2 dX7_readClimb_6 rfl rfl ?_
  refine z_iconst (-1) dX7_readClimb_7 rfl ?_
  refine z_icmp_ne 13 dX7_readClimb_8 rfl (fun hc => ?_) (fun hc => ?_)
  · rw [if_neg hc] at h
    refine z_aload_n p0 dX7_readClimb_13 rfl rfl ?_
    refine zq_VV (N := MX7_advance) (As := []) m_X7_25 dX7_readClimb_14 rfl rfl (Nat.le_of_ble_eq_true rfl) h (fun w3 h => ?_)
    refine z_aload_n p0 dX7_readClimb_17 rfl rfl ?_
    refine z_bipush 60 dX7_readClimb_18 rfl ?_
    refine zq_VI (N := MX7_isSign) (As := [.int 60]) m_X7_61 dX7_readClimb_20 rfl rfl (Nat.le_of_ble_eq_true rfl) h (fun x5 w4 h => ?_)
    refine z_if_ne 32 dX7_readClimb_23 rfl (fun hc => ?_) (fun hc => ?_)
    · rw [if_neg hc] at h
      refine z_iconst 0 dX7_readClimb_32 rfl ?_
      refine z_istore_n (i := 3) dX7_readClimb_33 rfl (by decide) rfl ?_
      exact h
    · rw [if_pos hc] at h
      refine z_aload_n p0 dX7_readClimb_26 rfl rfl ?_
      refine z_iconst 1 dX7_readClimb_27 rfl ?_
      refine zq_VI (N := MX7_refuse) (As := [.int 1]) m_X7_44 dX7_readClimb_28 rfl rfl (Nat.le_of_ble_eq_true rfl) h (fun x7 w6 h => ?_)
      exact z_ireturn .boolean dX7_readClimb_31 rfl (zBool_n h.1) h.2
  · rw [if_pos hc] at h
    refine z_iconst 0 dX7_readClimb_11 rfl ?_
    exact z_ireturn .boolean dX7_readClimb_12 rfl rfl h
set_option maxRecDepth 100000 in
set_option maxHeartbeats 4000000 in
theorem bX7_readClimb_34 {X : zX} {d kc ks : Nat} {w : zW} {Q : Option Value → zW → Prop} (v0 : Nat) (v1 : Nat) (v2 : Int32) (v3 : Int32)
    (h : zIs w v0 7 ∧ zCallI X d MX7_isSign [.ref v0, .int 60] w (fun x2 w1 => if x2 = 0 then (Q (some (.int 1)) w1) else (if 400 ≤ v3 then (Q (some (.int 1)) w1) else (zIs w1 v0 7 ∧ zCallV X d MX7_advance [.ref v0] w1 (fun w3 => zIs w3 v0 7 ∧ zCallI X d MX7_thingHere [.ref v0, .ref v1] w3 (fun x5 w4 => if x5 = (-1) then (Q (some (.int 0)) w4) else (if x5 = v2 then (zRn X d kc ks MX7_readClimb 85 [some (.ref v0), none, none, none, none] [] w4 Q) else (zIs w4 v1 5 ∧ zCallI X d MX5_under [.ref v1, .int x5, .int v2] w4 (fun x7 w6 => if x7 = 0 then (zIs w6 v1 5 ∧ zCallI X d MX5_link [.ref v1, .int v2, .int x5] w6 (fun x9 w8 => zIs w8 v0 7 ∧ zCallV X d MX7_advance [.ref v0] w8 (fun w10 => zRn X d kc ks MX7_readClimb 34 [some (.ref v0), some (.ref v1), some (.int x5), some (.int (v3 + 1)), none] [] w10 Q))) else (zRn X d kc ks MX7_readClimb 85 [some (.ref v0), none, none, none, none] [] w6 Q)))))))))) :
    zRn X d kc ks MX7_readClimb 34 [some (.ref v0), some (.ref v1), some (.int v2), some (.int v3), none] [] w Q := by
  refine z_aload_n v0 dX7_readClimb_34 rfl rfl ?_
  refine z_bipush 60 dX7_readClimb_35 rfl ?_
  refine zq_VI (N := MX7_isSign) (As := [.int 60]) m_X7_61 dX7_readClimb_37 rfl rfl (Nat.le_of_ble_eq_true rfl) h (fun x2 w1 h => ?_)
  refine z_if_eq 112 dX7_readClimb_40 rfl (fun hc => ?_) (fun hc => ?_)
  · rw [if_pos hc] at h
    refine z_iconst 1 dX7_readClimb_112 rfl ?_
    exact z_ireturn .boolean dX7_readClimb_113 rfl rfl h
  · rw [if_neg hc] at h
    refine z_iload_n v3 dX7_readClimb_43 rfl rfl ?_
    refine z_sipush 400 dX7_readClimb_44 rfl ?_
    refine z_icmp_ge 112 dX7_readClimb_47 rfl (fun hc => ?_) (fun hc => ?_)
    · rw [if_pos hc] at h
      refine z_iconst 1 dX7_readClimb_112 rfl ?_
      exact z_ireturn .boolean dX7_readClimb_113 rfl rfl h
    · rw [if_neg hc] at h
      refine z_aload_n v0 dX7_readClimb_50 rfl rfl ?_
      refine zq_VV (N := MX7_advance) (As := []) m_X7_25 dX7_readClimb_51 rfl rfl (Nat.le_of_ble_eq_true rfl) h (fun w3 h => ?_)
      refine z_aload_n v0 dX7_readClimb_54 rfl rfl ?_
      refine z_aload_n v1 dX7_readClimb_55 rfl rfl ?_
      refine zq_VI (N := MX7_thingHere) (As := [.ref v1]) m_X7_71 dX7_readClimb_56 rfl rfl (Nat.le_of_ble_eq_true rfl) h (fun x5 w4 h => ?_)
      refine z_istore (i := 4) dX7_readClimb_59 (by decide) rfl ?_
      refine z_iload x5 dX7_readClimb_61 rfl ?_
      refine z_iconst (-1) dX7_readClimb_63 rfl ?_
      refine z_icmp_ne 69 dX7_readClimb_64 rfl (fun hc => ?_) (fun hc => ?_)
      · rw [if_neg hc] at h
        refine z_iload x5 dX7_readClimb_69 rfl ?_
        refine z_iload_n v2 dX7_readClimb_71 rfl rfl ?_
        refine z_icmp_eq 85 dX7_readClimb_72 rfl (fun hc => ?_) (fun hc => ?_)
        · rw [if_pos hc] at h
          exact zRn.weak h (zLe_of [true, false, false, false, false] (And.intro rfl (And.intro rfl (And.intro rfl (And.intro rfl (And.intro rfl (trivial)))))))
        · rw [if_neg hc] at h
          refine z_aload_n v1 dX7_readClimb_75 rfl rfl ?_
          refine z_iload x5 dX7_readClimb_76 rfl ?_
          refine z_iload_n v2 dX7_readClimb_78 rfl rfl ?_
          refine zq_VI (N := MX5_under) (As := [.int x5, .int v2]) m_X7_75 dX7_readClimb_79 rfl rfl (Nat.le_of_ble_eq_true rfl) h (fun x7 w6 h => ?_)
          refine z_if_eq 91 dX7_readClimb_82 rfl (fun hc => ?_) (fun hc => ?_)
          · rw [if_pos hc] at h
            refine z_aload_n v1 dX7_readClimb_91 rfl rfl ?_
            refine z_iload_n v2 dX7_readClimb_92 rfl rfl ?_
            refine z_iload x5 dX7_readClimb_93 rfl ?_
            refine zq_VI (N := MX5_link) (As := [.int v2, .int x5]) m_X7_79 dX7_readClimb_95 rfl rfl (Nat.le_of_ble_eq_true rfl) h (fun x9 w8 h => ?_)
            refine z_pop dX7_readClimb_98 rfl ?_
            refine z_iload x5 dX7_readClimb_99 rfl ?_
            refine z_istore_n (i := 2) dX7_readClimb_101 rfl (by decide) rfl ?_
            refine z_aload_n v0 dX7_readClimb_102 rfl rfl ?_
            refine zq_VV (N := MX7_advance) (As := []) m_X7_25 dX7_readClimb_103 rfl rfl (Nat.le_of_ble_eq_true rfl) h (fun w10 h => ?_)
            refine z_iinc (i := 3) v3 (v3 + 1) dX7_readClimb_106 rfl rfl (by decide) rfl ?_
            refine z_goto 34 dX7_readClimb_109 rfl ?_
            exact zRn.weak h (zLe_of [true, true, true, true, false] (And.intro rfl (And.intro rfl (And.intro rfl (And.intro rfl (And.intro rfl (trivial)))))))
          · rw [if_neg hc] at h
            exact zRn.weak h (zLe_of [true, false, false, false, false] (And.intro rfl (And.intro rfl (And.intro rfl (And.intro rfl (And.intro rfl (trivial)))))))
      · rw [if_pos hc] at h
        refine z_iconst 0 dX7_readClimb_67 rfl ?_
        exact z_ireturn .boolean dX7_readClimb_68 rfl rfl h
set_option maxRecDepth 100000 in
set_option maxHeartbeats 4000000 in
theorem bX7_readClimb_85 {X : zX} {d kc ks : Nat} {w : zW} {Q : Option Value → zW → Prop} (v0 : Nat)
    (h : zIs w v0 7 ∧ zCallI X d MX7_refuse [.ref v0, .int 3] w (fun x2 w1 => zBool x2 ∧ Q (some (.int x2)) w1)) :
    zRn X d kc ks MX7_readClimb 85 [some (.ref v0), none, none, none, none] [] w Q := by
  refine z_aload_n v0 dX7_readClimb_85 rfl rfl ?_
  refine z_iconst 3 dX7_readClimb_86 rfl ?_
  refine zq_VI (N := MX7_refuse) (As := [.int 3]) m_X7_44 dX7_readClimb_87 rfl rfl (Nat.le_of_ble_eq_true rfl) h (fun x2 w1 h => ?_)
  exact z_ireturn .boolean dX7_readClimb_90 rfl (zBool_n h.1) h.2
theorem eX7_readClimb {X : zX} {d kc ks : Nat} {w : zW} {Q : Option Value → zW → Prop} (p0 : Nat) (p1 : Nat) (h : zRn X d kc ks MX7_readClimb 0 [some (.ref p0), some (.ref p1), none, none, none] [] w Q) : zEv X d kc ks MX7_readClimb [.ref p0, .ref p1] w Q :=
  zEv.of (by decide) (Nat.le_of_ble_eq_true rfl) (Or.inr (by simp [Value.category])) h
set_option maxRecDepth 100000 in
set_option maxHeartbeats 4000000 in
theorem bX7_thingHere_0 {X : zX} {d kc ks : Nat} {w : zW} {Q : Option Value → zW → Prop} (p0 : Nat) (p1 : Nat)
    (h : ∃ x1, zfI w p0 7 1 = some x1 ∧ (if x1 = 2 then (zIs w p0 7 ∧ zCallI X d MX7_number [.ref p0] w (fun x3 w2 => zIs w2 p1 5 ∧ zCallI X d MX5_has [.ref p1, .int x3] w2 (fun x5 w4 => if x5 = 0 then (zIs w4 p0 7 ∧ zCallI X d MX7_refuse [.ref p0, .int 2] w4 (fun x7 w6 => Q (some (.int (-1))) w6)) else (Q (some (.int x3)) w4)))) else (zIs w p0 7 ∧ zCallI X d MX7_refuse [.ref p0, .int 1] w (fun x9 w8 => Q (some (.int (-1))) w8)))) :
    zRn X d kc ks MX7_thingHere 0 [some (.ref p0), some (.ref p1), none] [] w Q := by
  refine z_aload_n p0 dX7_thingHere_0 rfl rfl ?_
  obtain ⟨x1, e, h⟩ := h
  refine zq_fI f_X7_48 dX7_thingHere_1 e ?_
  refine z_iconst 2 dX7_thingHere_4 rfl ?_
  refine z_icmp_eq 16 dX7_thingHere_5 rfl (fun hc => ?_) (fun hc => ?_)
  · rw [if_pos hc] at h
    refine z_aload_n p0 dX7_thingHere_16 rfl rfl ?_
    refine zq_VI (N := MX7_number) (As := []) m_X7_51 dX7_thingHere_17 rfl rfl (Nat.le_of_ble_eq_true rfl) h (fun x3 w2 h => ?_)
    refine z_istore_n (i := 2) dX7_thingHere_20 rfl (by decide) rfl ?_
    refine z_aload_n p1 dX7_thingHere_21 rfl rfl ?_
    refine z_iload_n x3 dX7_thingHere_22 rfl rfl ?_
    refine zq_VI (N := MX5_has) (As := [.int x3]) m_X7_111 dX7_thingHere_23 rfl rfl (Nat.le_of_ble_eq_true rfl) h (fun x5 w4 h => ?_)
    refine z_if_ne 37 dX7_thingHere_26 rfl (fun hc => ?_) (fun hc => ?_)
    · rw [if_neg hc] at h
      refine z_iload_n x3 dX7_thingHere_37 rfl rfl ?_
      exact z_ireturn .int dX7_thingHere_38 rfl rfl h
    · rw [if_pos hc] at h
      refine z_aload_n p0 dX7_thingHere_29 rfl rfl ?_
      refine z_iconst 2 dX7_thingHere_30 rfl ?_
      refine zq_VI (N := MX7_refuse) (As := [.int 2]) m_X7_44 dX7_thingHere_31 rfl rfl (Nat.le_of_ble_eq_true rfl) h (fun x7 w6 h => ?_)
      refine z_pop dX7_thingHere_34 rfl ?_
      refine z_iconst (-1) dX7_thingHere_35 rfl ?_
      exact z_ireturn .int dX7_thingHere_36 rfl rfl h
  · rw [if_neg hc] at h
    refine z_aload_n p0 dX7_thingHere_8 rfl rfl ?_
    refine z_iconst 1 dX7_thingHere_9 rfl ?_
    refine zq_VI (N := MX7_refuse) (As := [.int 1]) m_X7_44 dX7_thingHere_10 rfl rfl (Nat.le_of_ble_eq_true rfl) h (fun x9 w8 h => ?_)
    refine z_pop dX7_thingHere_13 rfl ?_
    refine z_iconst (-1) dX7_thingHere_14 rfl ?_
    exact z_ireturn .int dX7_thingHere_15 rfl rfl h
theorem eX7_thingHere {X : zX} {d kc ks : Nat} {w : zW} {Q : Option Value → zW → Prop} (p0 : Nat) (p1 : Nat) (h : zRn X d kc ks MX7_thingHere 0 [some (.ref p0), some (.ref p1), none] [] w Q) : zEv X d kc ks MX7_thingHere [.ref p0, .ref p1] w Q :=
  zEv.of (by decide) (Nat.le_of_ble_eq_true rfl) (Or.inr (by simp [Value.category])) h
set_option maxRecDepth 100000 in
set_option maxHeartbeats 4000000 in
theorem bX7_passSemicolon_0 {X : zX} {d kc ks : Nat} {w : zW} {Q : Option Value → zW → Prop} (p0 : Nat)
    (h : zIs w p0 7 ∧ zCallI X d MX7_isSign [.ref p0, .int 59] w (fun x2 w1 => if x2 = 0 then (zIs w1 p0 7 ∧ zCallI X d MX7_refuse [.ref p0, .int 1] w1 (fun x5 w4 => zBool x5 ∧ Q (some (.int x5)) w4)) else (zIs w1 p0 7 ∧ zCallV X d MX7_advance [.ref p0] w1 (fun w3 => Q (some (.int 1)) w3)))) :
    zRn X d kc ks MX7_passSemicolon 0 [some (.ref p0)] [] w Q := by
  refine z_aload_n p0 dX7_passSemicolon_0 rfl rfl ?_
  refine z_bipush 59 dX7_passSemicolon_1 rfl ?_
  refine zq_VI (N := MX7_isSign) (As := [.int 59]) m_X7_61 dX7_passSemicolon_3 rfl rfl (Nat.le_of_ble_eq_true rfl) h (fun x2 w1 h => ?_)
  refine z_if_ne 15 dX7_passSemicolon_6 rfl (fun hc => ?_) (fun hc => ?_)
  · rw [if_neg hc] at h
    refine z_aload_n p0 dX7_passSemicolon_15 rfl rfl ?_
    refine zq_VV (N := MX7_advance) (As := []) m_X7_25 dX7_passSemicolon_16 rfl rfl (Nat.le_of_ble_eq_true rfl) h (fun w3 h => ?_)
    refine z_iconst 1 dX7_passSemicolon_19 rfl ?_
    exact z_ireturn .boolean dX7_passSemicolon_20 rfl rfl h
  · rw [if_pos hc] at h
    refine z_aload_n p0 dX7_passSemicolon_9 rfl rfl ?_
    refine z_iconst 1 dX7_passSemicolon_10 rfl ?_
    refine zq_VI (N := MX7_refuse) (As := [.int 1]) m_X7_44 dX7_passSemicolon_11 rfl rfl (Nat.le_of_ble_eq_true rfl) h (fun x5 w4 h => ?_)
    exact z_ireturn .boolean dX7_passSemicolon_14 rfl (zBool_n h.1) h.2
theorem eX7_passSemicolon {X : zX} {d kc ks : Nat} {w : zW} {Q : Option Value → zW → Prop} (p0 : Nat) (h : zRn X d kc ks MX7_passSemicolon 0 [some (.ref p0)] [] w Q) : zEv X d kc ks MX7_passSemicolon [.ref p0] w Q :=
  zEv.of (by decide) (Nat.le_of_ble_eq_true rfl) (Or.inr (by simp [Value.category])) h
set_option maxRecDepth 100000 in
set_option maxHeartbeats 4000000 in
theorem bX7_readRows_0 {X : zX} {d kc ks : Nat} {w : zW} {Q : Option Value → zW → Prop} (p0 : Nat) (p1 : Nat)
    (h : zRn X d kc ks MX7_readRows 2 [some (.ref p0), some (.ref p1), some (.int 0)] [] w Q) :
    zRn X d kc ks MX7_readRows 0 [some (.ref p0), some (.ref p1), none] [] w Q := by
  refine z_iconst 0 dX7_readRows_0 rfl ?_
  refine z_istore_n (i := 2) dX7_readRows_1 rfl (by decide) rfl ?_
  exact h
set_option maxRecDepth 100000 in
set_option maxHeartbeats 4000000 in
theorem bX7_readRows_2 {X : zX} {d kc ks : Nat} {w : zW} {Q : Option Value → zW → Prop} (v0 : Nat) (v1 : Nat) (v2 : Int32)
    (h : ∃ x1, zfI w v0 7 1 = some x1 ∧ (if x1 = 0 then (Q (some (.int 1)) w) else (if 400 ≤ v2 then (Q (some (.int 1)) w) else (zIs w v0 7 ∧ zCallI X d MX7_isWord [.ref v0, .ref (zTx 1)] w (fun x3 w2 => if x3 = 0 then (zIs w2 v0 7 ∧ zCallI X d MX7_refuse [.ref v0, .int 1] w2 (fun x23 w22 => zBool x23 ∧ Q (some (.int x23)) w22)) else (zIs w2 v1 5 ∧ zCallR X d MX5_rows [.ref v1] w2 (fun r5 w4 => zIs w4 r5 8 ∧ zCallI X d MX8_size [.ref r5] w4 (fun x7 w6 => if x7 < 6 then (zIs w6 v0 7 ∧ zCallV X d MX7_advance [.ref v0] w6 (fun w8 => ∃ x9, zfI w8 v0 7 1 = some x9 ∧ (if x9 = 2 then (zIs w8 v0 7 ∧ zCallI X d MX7_isRowOf [.ref v0, .ref v1] w8 (fun x11 w10 => if x11 = 0 then (zIs w10 v0 7 ∧ zCallI X d MX7_refuse [.ref v0, .int 4] w10 (fun x17 w16 => zBool x17 ∧ Q (some (.int x17)) w16)) else (zIs w10 v0 7 ∧ zCallV X d MX7_takeRow [.ref v0, .ref v1] w10 (fun w12 => zIs w12 v0 7 ∧ zCallV X d MX7_advance [.ref v0] w12 (fun w13 => zIs w13 v0 7 ∧ zCallI X d MX7_passSemicolon [.ref v0] w13 (fun x15 w14 => if x15 = 0 then (Q (some (.int 0)) w14) else (zRn X d kc ks MX7_readRows 2 [some (.ref v0), some (.ref v1), some (.int (v2 + 1))] [] w14 Q))))))) else (zIs w8 v0 7 ∧ zCallI X d MX7_refuse [.ref v0, .int 1] w8 (fun x19 w18 => zBool x19 ∧ Q (some (.int x19)) w18))))) else (zIs w6 v0 7 ∧ zCallI X d MX7_refuse [.ref v0, .int 5] w6 (fun x21 w20 => zBool x21 ∧ Q (some (.int x21)) w20)))))))))) :
    zRn X d kc ks MX7_readRows 2 [some (.ref v0), some (.ref v1), some (.int v2)] [] w Q := by
  refine z_aload_n v0 dX7_readRows_2 rfl rfl ?_
  obtain ⟨x1, e, h⟩ := h
  refine zq_fI f_X7_48 dX7_readRows_3 e ?_
  refine z_if_eq 105 dX7_readRows_6 rfl (fun hc => ?_) (fun hc => ?_)
  · rw [if_pos hc] at h
    refine z_iconst 1 dX7_readRows_105 rfl ?_
    exact z_ireturn .boolean dX7_readRows_106 rfl rfl h
  · rw [if_neg hc] at h
    refine z_iload_n v2 dX7_readRows_9 rfl rfl ?_
    refine z_sipush 400 dX7_readRows_10 rfl ?_
    refine z_icmp_ge 105 dX7_readRows_13 rfl (fun hc => ?_) (fun hc => ?_)
    · rw [if_pos hc] at h
      refine z_iconst 1 dX7_readRows_105 rfl ?_
      exact z_ireturn .boolean dX7_readRows_106 rfl rfl h
    · rw [if_neg hc] at h
      refine z_aload_n v0 dX7_readRows_16 rfl rfl ?_
      refine z_ldcS (q := 1) rfl dX7_readRows_17 ?_
      refine zq_VI (N := MX7_isWord) (As := [.ref (zTx 1)]) m_X7_40 dX7_readRows_19 rfl rfl (Nat.le_of_ble_eq_true rfl) h (fun x3 w2 h => ?_)
      refine z_if_ne 31 dX7_readRows_22 rfl (fun hc => ?_) (fun hc => ?_)
      · rw [if_neg hc] at h
        refine z_aload_n v1 dX7_readRows_31 rfl rfl ?_
        refine zq_VR (N := MX5_rows) (As := []) m_X7_85 dX7_readRows_32 rfl rfl (Nat.le_of_ble_eq_true rfl) h (fun r5 w4 h => ?_)
        refine zq_VI (N := MX8_size) (As := []) m_X7_89 dX7_readRows_35 rfl rfl (Nat.le_of_ble_eq_true rfl) h (fun x7 w6 h => ?_)
        refine z_bipush 6 dX7_readRows_38 rfl ?_
        refine z_icmp_lt 49 dX7_readRows_40 rfl (fun hc => ?_) (fun hc => ?_)
        · rw [if_pos hc] at h
          refine z_aload_n v0 dX7_readRows_49 rfl rfl ?_
          refine zq_VV (N := MX7_advance) (As := []) m_X7_25 dX7_readRows_50 rfl rfl (Nat.le_of_ble_eq_true rfl) h (fun w8 h => ?_)
          refine z_aload_n v0 dX7_readRows_53 rfl rfl ?_
          obtain ⟨x9, e, h⟩ := h
          refine zq_fI f_X7_48 dX7_readRows_54 e ?_
          refine z_iconst 2 dX7_readRows_57 rfl ?_
          refine z_icmp_eq 67 dX7_readRows_58 rfl (fun hc => ?_) (fun hc => ?_)
          · rw [if_pos hc] at h
            refine z_aload_n v0 dX7_readRows_67 rfl rfl ?_
            refine z_aload_n v1 dX7_readRows_68 rfl rfl ?_
            refine zq_VI (N := MX7_isRowOf) (As := [.ref v1]) m_X7_94 dX7_readRows_69 rfl rfl (Nat.le_of_ble_eq_true rfl) h (fun x11 w10 h => ?_)
            refine z_if_ne 81 dX7_readRows_72 rfl (fun hc => ?_) (fun hc => ?_)
            · rw [if_neg hc] at h
              refine z_aload_n v0 dX7_readRows_81 rfl rfl ?_
              refine z_aload_n v1 dX7_readRows_82 rfl rfl ?_
              refine zq_VV (N := MX7_takeRow) (As := [.ref v1]) m_X7_97 dX7_readRows_83 rfl rfl (Nat.le_of_ble_eq_true rfl) h (fun w12 h => ?_)
              refine z_aload_n v0 dX7_readRows_86 rfl rfl ?_
              refine zq_VV (N := MX7_advance) (As := []) m_X7_25 dX7_readRows_87 rfl rfl (Nat.le_of_ble_eq_true rfl) h (fun w13 h => ?_)
              refine z_aload_n v0 dX7_readRows_90 rfl rfl ?_
              refine zq_VI (N := MX7_passSemicolon) (As := []) m_X7_67 dX7_readRows_91 rfl rfl (Nat.le_of_ble_eq_true rfl) h (fun x15 w14 h => ?_)
              refine z_if_ne 99 dX7_readRows_94 rfl (fun hc => ?_) (fun hc => ?_)
              · rw [if_neg hc] at h
                refine z_iinc (i := 2) v2 (v2 + 1) dX7_readRows_99 rfl rfl (by decide) rfl ?_
                refine z_goto 2 dX7_readRows_102 rfl ?_
                exact h
              · rw [if_pos hc] at h
                refine z_iconst 0 dX7_readRows_97 rfl ?_
                exact z_ireturn .boolean dX7_readRows_98 rfl rfl h
            · rw [if_pos hc] at h
              refine z_aload_n v0 dX7_readRows_75 rfl rfl ?_
              refine z_iconst 4 dX7_readRows_76 rfl ?_
              refine zq_VI (N := MX7_refuse) (As := [.int 4]) m_X7_44 dX7_readRows_77 rfl rfl (Nat.le_of_ble_eq_true rfl) h (fun x17 w16 h => ?_)
              exact z_ireturn .boolean dX7_readRows_80 rfl (zBool_n h.1) h.2
          · rw [if_neg hc] at h
            refine z_aload_n v0 dX7_readRows_61 rfl rfl ?_
            refine z_iconst 1 dX7_readRows_62 rfl ?_
            refine zq_VI (N := MX7_refuse) (As := [.int 1]) m_X7_44 dX7_readRows_63 rfl rfl (Nat.le_of_ble_eq_true rfl) h (fun x19 w18 h => ?_)
            exact z_ireturn .boolean dX7_readRows_66 rfl (zBool_n h.1) h.2
        · rw [if_neg hc] at h
          refine z_aload_n v0 dX7_readRows_43 rfl rfl ?_
          refine z_iconst 5 dX7_readRows_44 rfl ?_
          refine zq_VI (N := MX7_refuse) (As := [.int 5]) m_X7_44 dX7_readRows_45 rfl rfl (Nat.le_of_ble_eq_true rfl) h (fun x21 w20 h => ?_)
          exact z_ireturn .boolean dX7_readRows_48 rfl (zBool_n h.1) h.2
      · rw [if_pos hc] at h
        refine z_aload_n v0 dX7_readRows_25 rfl rfl ?_
        refine z_iconst 1 dX7_readRows_26 rfl ?_
        refine zq_VI (N := MX7_refuse) (As := [.int 1]) m_X7_44 dX7_readRows_27 rfl rfl (Nat.le_of_ble_eq_true rfl) h (fun x23 w22 h => ?_)
        exact z_ireturn .boolean dX7_readRows_30 rfl (zBool_n h.1) h.2
theorem eX7_readRows {X : zX} {d kc ks : Nat} {w : zW} {Q : Option Value → zW → Prop} (p0 : Nat) (p1 : Nat) (h : zRn X d kc ks MX7_readRows 0 [some (.ref p0), some (.ref p1), none] [] w Q) : zEv X d kc ks MX7_readRows [.ref p0, .ref p1] w Q :=
  zEv.of (by decide) (Nat.le_of_ble_eq_true rfl) (Or.inr (by simp [Value.category])) h
set_option maxRecDepth 100000 in
set_option maxHeartbeats 4000000 in
theorem bX7_isRowOf_0 {X : zX} {d kc ks : Nat} {w : zW} {Q : Option Value → zW → Prop} (p0 : Nat) (p1 : Nat)
    (h : ∃ x1, zfI w p0 7 3 = some x1 ∧ (∃ x2, zfI w p0 7 2 = some x2 ∧ (zIs w p1 5 ∧ zCallI X d MX5_size [.ref p1] w (fun x4 w3 => if (x1 - x2) = x4 then (∃ x5, zfI w3 p0 7 2 = some x5 ∧ (zRn X d kc ks MX7_isRowOf 25 [some (.ref p0), some (.ref p1), some (.int 0), some (.int x5), none] [] w3 Q)) else (Q (some (.int 0)) w3))))) :
    zRn X d kc ks MX7_isRowOf 0 [some (.ref p0), some (.ref p1), none, none, none] [] w Q := by
  refine z_aload_n p0 dX7_isRowOf_0 rfl rfl ?_
  obtain ⟨x1, e, h⟩ := h
  refine zq_fI f_X7_22 dX7_isRowOf_1 e ?_
  refine z_aload_n p0 dX7_isRowOf_4 rfl rfl ?_
  obtain ⟨x2, e, h⟩ := h
  refine zq_fI f_X7_101 dX7_isRowOf_5 e ?_
  refine z_isub dX7_isRowOf_8 ?_
  refine z_aload_n p1 dX7_isRowOf_9 rfl rfl ?_
  refine zq_VI (N := MX5_size) (As := []) m_X7_104 dX7_isRowOf_10 rfl rfl (Nat.le_of_ble_eq_true rfl) h (fun x4 w3 h => ?_)
  refine z_icmp_eq 18 dX7_isRowOf_13 rfl (fun hc => ?_) (fun hc => ?_)
  · rw [if_pos hc] at h
    refine z_iconst 0 dX7_isRowOf_18 rfl ?_
    refine z_istore_n (i := 2) dX7_isRowOf_19 rfl (by decide) rfl ?_
    refine z_aload_n p0 dX7_isRowOf_20 rfl rfl ?_
    obtain ⟨x5, e, h⟩ := h
    refine zq_fI f_X7_101 dX7_isRowOf_21 e ?_
    refine z_istore_n (i := 3) dX7_isRowOf_24 rfl (by decide) rfl ?_
    exact h
  · rw [if_neg hc] at h
    refine z_iconst 0 dX7_isRowOf_16 rfl ?_
    exact z_ireturn .boolean dX7_isRowOf_17 rfl rfl h
set_option maxRecDepth 100000 in
set_option maxHeartbeats 4000000 in
theorem bX7_isRowOf_25 {X : zX} {d kc ks : Nat} {w : zW} {Q : Option Value → zW → Prop} (v0 : Nat) (v1 : Nat) (v2 : Int32) (v3 : Int32)
    (h : ∃ x1, zfI w v0 7 3 = some x1 ∧ (if x1 ≤ v3 then (Q (some (.int 1)) w) else (∃ r2, zfR w v0 7 0 = some r2 ∧ (zIs w r2 0 ∧ zCallI X d MX0_byteAt [.ref r2, .int v3] w (fun x4 w3 => zIs w3 v1 5 ∧ zCallI X d MX5_has [.ref v1, .int (x4 - 48)] w3 (fun x6 w5 => if x6 = 0 then (Q (some (.int 0)) w5) else (if ((v2 >>> ((x4 - 48) &&& 31)) &&& 1) = 1 then (Q (some (.int 0)) w5) else (zRn X d kc ks MX7_isRowOf 25 [some (.ref v0), some (.ref v1), some (.int (v2 ||| ((1 : Int32) <<< ((x4 - 48) &&& 31)))), some (.int (v3 + 1)), none] [] w5 Q)))))))) :
    zRn X d kc ks MX7_isRowOf 25 [some (.ref v0), some (.ref v1), some (.int v2), some (.int v3), none] [] w Q := by
  refine z_iload_n v3 dX7_isRowOf_25 rfl rfl ?_
  refine z_aload_n v0 dX7_isRowOf_26 rfl rfl ?_
  obtain ⟨x1, e, h⟩ := h
  refine zq_fI f_X7_22 dX7_isRowOf_27 e ?_
  refine z_icmp_ge 80 dX7_isRowOf_30 rfl (fun hc => ?_) (fun hc => ?_)
  · rw [if_pos hc] at h
    refine z_iconst 1 dX7_isRowOf_80 rfl ?_
    exact z_ireturn .boolean dX7_isRowOf_81 rfl rfl h
  · rw [if_neg hc] at h
    refine z_aload_n v0 dX7_isRowOf_33 rfl rfl ?_
    obtain ⟨r2, e, h⟩ := h
    refine zq_fR f_X7_15 dX7_isRowOf_34 e ?_
    refine z_iload_n v3 dX7_isRowOf_37 rfl rfl ?_
    refine zq_VI (N := MX0_byteAt) (As := [.int v3]) m_X7_105 dX7_isRowOf_38 rfl rfl (Nat.le_of_ble_eq_true rfl) h (fun x4 w3 h => ?_)
    refine z_bipush 48 dX7_isRowOf_41 rfl ?_
    refine z_isub dX7_isRowOf_43 ?_
    refine z_istore (i := 4) dX7_isRowOf_44 (by decide) rfl ?_
    refine z_aload_n v1 dX7_isRowOf_46 rfl rfl ?_
    refine z_iload (x4 - 48) dX7_isRowOf_47 rfl ?_
    refine zq_VI (N := MX5_has) (As := [.int (x4 - 48)]) m_X7_111 dX7_isRowOf_49 rfl rfl (Nat.le_of_ble_eq_true rfl) h (fun x6 w5 h => ?_)
    refine z_if_eq 65 dX7_isRowOf_52 rfl (fun hc => ?_) (fun hc => ?_)
    · rw [if_pos hc] at h
      refine z_iconst 0 dX7_isRowOf_65 rfl ?_
      exact z_ireturn .boolean dX7_isRowOf_66 rfl rfl h
    · rw [if_neg hc] at h
      refine z_iload_n v2 dX7_isRowOf_55 rfl rfl ?_
      refine z_iload (x4 - 48) dX7_isRowOf_56 rfl ?_
      refine z_ishr dX7_isRowOf_58 ?_
      refine z_iconst 1 dX7_isRowOf_59 rfl ?_
      refine z_iand dX7_isRowOf_60 ?_
      refine z_iconst 1 dX7_isRowOf_61 rfl ?_
      refine z_icmp_ne 67 dX7_isRowOf_62 rfl (fun hc => ?_) (fun hc => ?_)
      · rw [if_neg hc] at h
        refine z_iload_n v2 dX7_isRowOf_67 rfl rfl ?_
        refine z_iconst 1 dX7_isRowOf_68 rfl ?_
        refine z_iload (x4 - 48) dX7_isRowOf_69 rfl ?_
        refine z_ishl dX7_isRowOf_71 ?_
        refine z_ior dX7_isRowOf_72 ?_
        refine z_istore_n (i := 2) dX7_isRowOf_73 rfl (by decide) rfl ?_
        refine z_iinc (i := 3) v3 (v3 + 1) dX7_isRowOf_74 rfl rfl (by decide) rfl ?_
        refine z_goto 25 dX7_isRowOf_77 rfl ?_
        exact zRn.weak h (zLe_of [true, true, true, true, false] (And.intro rfl (And.intro rfl (And.intro rfl (And.intro rfl (And.intro rfl (trivial)))))))
      · rw [if_pos hc] at h
        refine z_iconst 0 dX7_isRowOf_65 rfl ?_
        exact z_ireturn .boolean dX7_isRowOf_66 rfl rfl h
theorem eX7_isRowOf {X : zX} {d kc ks : Nat} {w : zW} {Q : Option Value → zW → Prop} (p0 : Nat) (p1 : Nat) (h : zRn X d kc ks MX7_isRowOf 0 [some (.ref p0), some (.ref p1), none, none, none] [] w Q) : zEv X d kc ks MX7_isRowOf [.ref p0, .ref p1] w Q :=
  zEv.of (by decide) (Nat.le_of_ble_eq_true rfl) (Or.inr (by simp [Value.category])) h
set_option maxRecDepth 100000 in
set_option maxHeartbeats 4000000 in
theorem bX7_takeRow_0 {X : zX} {d kc ks : Nat} {w : zW} {Q : Option Value → zW → Prop} (p0 : Nat) (p1 : Nat)
    (h : zIs w p1 5 ∧ zCallR X d MX5_rows [.ref p1] w (fun r2 w1 => zIs w1 r2 8 ∧ zCallI X d MX8_open [.ref r2] w1 (fun x4 w3 => ∃ x5, zfI w3 p0 7 2 = some x5 ∧ (zRn X d kc ks MX7_takeRow 13 [some (.ref p0), some (.ref p1), some (.int x4), some (.int x5)] [] w3 Q)))) :
    zRn X d kc ks MX7_takeRow 0 [some (.ref p0), some (.ref p1), none, none] [] w Q := by
  refine z_aload_n p1 dX7_takeRow_0 rfl rfl ?_
  refine zq_VR (N := MX5_rows) (As := []) m_X7_85 dX7_takeRow_1 rfl rfl (Nat.le_of_ble_eq_true rfl) h (fun r2 w1 h => ?_)
  refine zq_VI (N := MX8_open) (As := []) m_X7_114 dX7_takeRow_4 rfl rfl (Nat.le_of_ble_eq_true rfl) h (fun x4 w3 h => ?_)
  refine z_istore_n (i := 2) dX7_takeRow_7 rfl (by decide) rfl ?_
  refine z_aload_n p0 dX7_takeRow_8 rfl rfl ?_
  obtain ⟨x5, e, h⟩ := h
  refine zq_fI f_X7_101 dX7_takeRow_9 e ?_
  refine z_istore_n (i := 3) dX7_takeRow_12 rfl (by decide) rfl ?_
  exact h
set_option maxRecDepth 100000 in
set_option maxHeartbeats 4000000 in
theorem bX7_takeRow_13 {X : zX} {d kc ks : Nat} {w : zW} {Q : Option Value → zW → Prop} (v0 : Nat) (v1 : Nat) (v2 : Int32) (v3 : Int32)
    (h : ∃ x1, zfI w v0 7 3 = some x1 ∧ (if x1 ≤ v3 then (Q none w) else (zIs w v1 5 ∧ zCallR X d MX5_rows [.ref v1] w (fun r3 w2 => ∃ x4, zfI w2 v0 7 2 = some x4 ∧ (∃ r5, zfR w2 v0 7 0 = some r5 ∧ (zIs w2 r5 0 ∧ zCallI X d MX0_byteAt [.ref r5, .int v3] w2 (fun x7 w6 => zIs w6 r3 8 ∧ zCallV X d MX8_put [.ref r3, .int v2, .int (v3 - x4), .int (x7 - 48)] w6 (fun w8 => zRn X d kc ks MX7_takeRow 13 [some (.ref v0), some (.ref v1), some (.int v2), some (.int (v3 + 1))] [] w8 Q)))))))) :
    zRn X d kc ks MX7_takeRow 13 [some (.ref v0), some (.ref v1), some (.int v2), some (.int v3)] [] w Q := by
  refine z_iload_n v3 dX7_takeRow_13 rfl rfl ?_
  refine z_aload_n v0 dX7_takeRow_14 rfl rfl ?_
  obtain ⟨x1, e, h⟩ := h
  refine zq_fI f_X7_22 dX7_takeRow_15 e ?_
  refine z_icmp_ge 52 dX7_takeRow_18 rfl (fun hc => ?_) (fun hc => ?_)
  · rw [if_pos hc] at h
    exact z_vreturn dX7_takeRow_52 rfl h
  · rw [if_neg hc] at h
    refine z_aload_n v1 dX7_takeRow_21 rfl rfl ?_
    refine zq_VR (N := MX5_rows) (As := []) m_X7_85 dX7_takeRow_22 rfl rfl (Nat.le_of_ble_eq_true rfl) h (fun r3 w2 h => ?_)
    refine z_iload_n v2 dX7_takeRow_25 rfl rfl ?_
    refine z_iload_n v3 dX7_takeRow_26 rfl rfl ?_
    refine z_aload_n v0 dX7_takeRow_27 rfl rfl ?_
    obtain ⟨x4, e, h⟩ := h
    refine zq_fI f_X7_101 dX7_takeRow_28 e ?_
    refine z_isub dX7_takeRow_31 ?_
    refine z_aload_n v0 dX7_takeRow_32 rfl rfl ?_
    obtain ⟨r5, e, h⟩ := h
    refine zq_fR f_X7_15 dX7_takeRow_33 e ?_
    refine z_iload_n v3 dX7_takeRow_36 rfl rfl ?_
    refine zq_VI (N := MX0_byteAt) (As := [.int v3]) m_X7_105 dX7_takeRow_37 rfl rfl (Nat.le_of_ble_eq_true rfl) h (fun x7 w6 h => ?_)
    refine z_bipush 48 dX7_takeRow_40 rfl ?_
    refine z_isub dX7_takeRow_42 ?_
    refine zq_VV (N := MX8_put) (As := [.int v2, .int (v3 - x4), .int (x7 - 48)]) m_X7_117 dX7_takeRow_43 rfl rfl (Nat.le_of_ble_eq_true rfl) h (fun w8 h => ?_)
    refine z_iinc (i := 3) v3 (v3 + 1) dX7_takeRow_46 rfl rfl (by decide) rfl ?_
    refine z_goto 13 dX7_takeRow_49 rfl ?_
    exact h
theorem eX7_takeRow {X : zX} {d kc ks : Nat} {w : zW} {Q : Option Value → zW → Prop} (p0 : Nat) (p1 : Nat) (h : zRn X d kc ks MX7_takeRow 0 [some (.ref p0), some (.ref p1), none, none] [] w Q) : zEv X d kc ks MX7_takeRow [.ref p0, .ref p1] w Q :=
  zEv.of (by decide) (Nat.le_of_ble_eq_true rfl) (Or.inr (by simp [Value.category])) h
set_option maxRecDepth 100000 in
set_option maxHeartbeats 4000000 in
theorem bX7_faultKind_0 {X : zX} {d kc ks : Nat} {w : zW} {Q : Option Value → zW → Prop} (p0 : Nat)
    (h : ∃ x1, zfI w p0 7 4 = some x1 ∧ (Q (some (.int x1)) w)) :
    zRn X d kc ks MX7_faultKind 0 [some (.ref p0)] [] w Q := by
  refine z_aload_n p0 dX7_faultKind_0 rfl rfl ?_
  obtain ⟨x1, e, h⟩ := h
  refine zq_fI f_X7_19 dX7_faultKind_1 e ?_
  exact z_ireturn .int dX7_faultKind_4 rfl rfl h
theorem eX7_faultKind {X : zX} {d kc ks : Nat} {w : zW} {Q : Option Value → zW → Prop} (p0 : Nat) (h : zRn X d kc ks MX7_faultKind 0 [some (.ref p0)] [] w Q) : zEv X d kc ks MX7_faultKind [.ref p0] w Q :=
  zEv.of (by decide) (Nat.le_of_ble_eq_true rfl) (Or.inr (by simp [Value.category])) h
set_option maxRecDepth 100000 in
set_option maxHeartbeats 4000000 in
theorem bX7_faultPlace_0 {X : zX} {d kc ks : Nat} {w : zW} {Q : Option Value → zW → Prop} (p0 : Nat)
    (h : ∃ x1, zfI w p0 7 5 = some x1 ∧ (Q (some (.int x1)) w)) :
    zRn X d kc ks MX7_faultPlace 0 [some (.ref p0)] [] w Q := by
  refine z_aload_n p0 dX7_faultPlace_0 rfl rfl ?_
  obtain ⟨x1, e, h⟩ := h
  refine zq_fI f_X7_9 dX7_faultPlace_1 e ?_
  exact z_ireturn .int dX7_faultPlace_4 rfl rfl h
theorem eX7_faultPlace {X : zX} {d kc ks : Nat} {w : zW} {Q : Option Value → zW → Prop} (p0 : Nat) (h : zRn X d kc ks MX7_faultPlace 0 [some (.ref p0)] [] w Q) : zEv X d kc ks MX7_faultPlace [.ref p0] w Q :=
  zEv.of (by decide) (Nat.le_of_ble_eq_true rfl) (Or.inr (by simp [Value.category])) h
