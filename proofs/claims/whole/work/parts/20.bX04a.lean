set_option maxRecDepth 100000 in
set_option maxHeartbeats 4000000 in
theorem bX4_init_0 {X : zX} {d kc ks : Nat} {w : zW} {Q : Option Value → zW → Prop} (p0 : Nat)
    (h : 0 < d ∧ ((256 = nI 256 ∧ 256 ≤ 100000 ∧ w.length < zBig ∧ 1 ≤ kc ∧ 256 ≤ ks) ∧ (∃ w2, zsF (w ++ [zI 256 (fun _ => 0)]) p0 4 0 (.ref w.length) = some w2 ∧ ((256 = nI 256 ∧ 256 ≤ 100000 ∧ w2.length < zBig ∧ 1 ≤ (kc - 1) ∧ 256 ≤ (ks - 256)) ∧ (∃ w4, zsF (w2 ++ [zI 256 (fun _ => 0)]) p0 4 1 (.ref w2.length) = some w4 ∧ (Q none w4)))))) :
    zRn X d kc ks MX4_init 0 [some (.ref p0)] [] w Q := by
  refine z_aload_n p0 dX4_init_0 rfl rfl ?_
  refine z_objInit g_246 g_127 g_128 dX4_init_1 (Nat.le_of_ble_eq_true rfl) h.1 ?_
  have h := h.2
  refine z_aload_n p0 dX4_init_4 rfl rfl ?_
  refine z_sipush 256 dX4_init_5 rfl ?_
  refine zq_newa (N := 256) g_149 dX4_init_8 h.1 ?_
  have h := h.2
  obtain ⟨w2, e, h⟩ := h
  refine zq_sFf f_X4_9 rfl dX4_init_10 (fun _ => rfl) (fun _ => rfl) e ?_
  refine z_aload_n p0 dX4_init_13 rfl rfl ?_
  refine z_sipush 256 dX4_init_14 rfl ?_
  refine zq_newa (N := 256) g_149 dX4_init_17 h.1 ?_
  have h := h.2
  obtain ⟨w4, e, h⟩ := h
  refine zq_sFf f_X4_15 rfl dX4_init_19 (fun _ => rfl) (fun _ => rfl) e ?_
  exact z_vreturn dX4_init_22 rfl h
theorem eX4_init {X : zX} {d kc ks : Nat} {w : zW} {Q : Option Value → zW → Prop} (p0 : Nat) (h : zRn X d kc ks MX4_init 0 [some (.ref p0)] [] w Q) : zEv X d kc ks MX4_init [.ref p0] w Q :=
  zEv.of (by decide) (Nat.le_of_ble_eq_true rfl) (Or.inr (by simp [Value.category])) h
set_option maxRecDepth 100000 in
set_option maxHeartbeats 4000000 in
theorem bX4_fill_0 {X : zX} {d kc ks : Nat} {w : zW} {Q : Option Value → zW → Prop} (p0 : Nat) (p1 : Nat)
    (h : zIs w p1 5 ∧ zCallI X d MX5_all [.ref p1] w (fun x2 w1 => zRn X d kc ks MX4_fill 7 [some (.ref p0), some (.ref p1), some (.int x2), some (.int 0), none] [] w1 Q)) :
    zRn X d kc ks MX4_fill 0 [some (.ref p0), some (.ref p1), none, none, none] [] w Q := by
  refine z_aload_n p1 dX4_fill_0 rfl rfl ?_
  refine zq_VI (N := MX5_all) (As := []) m_X4_18 dX4_fill_1 rfl rfl (Nat.le_of_ble_eq_true rfl) h (fun x2 w1 h => ?_)
  refine z_istore_n (i := 2) dX4_fill_4 rfl (by decide) rfl ?_
  refine z_iconst 0 dX4_fill_5 rfl ?_
  refine z_istore_n (i := 3) dX4_fill_6 rfl (by decide) rfl ?_
  exact h
set_option maxRecDepth 100000 in
set_option maxHeartbeats 4000000 in
theorem bX4_fill_7 {X : zX} {d kc ks : Nat} {w : zW} {Q : Option Value → zW → Prop} (v0 : Nat) (v1 : Nat) (v2 : Int32) (v3 : Int32)
    (h : if 256 ≤ v3 then (∃ r1, zfR w v0 4 0 = some r1 ∧ (∃ w2, zsI w r1 0 1 = some w2 ∧ (zRn X d kc ks MX4_fill 43 [some (.ref v0), some (.ref v1), some (.int v2), some (.int 0), none] [] w2 Q))) else (∃ r3, zfR w v0 4 0 = some r3 ∧ (∃ w4, zsI w r3 v3 0 = some w4 ∧ (∃ r5, zfR w4 v0 4 1 = some r5 ∧ (∃ w6, zsI w4 r5 v3 0 = some w6 ∧ (zRn X d kc ks MX4_fill 7 [some (.ref v0), some (.ref v1), some (.int v2), some (.int (v3 + 1)), none] [] w6 Q)))))) :
    zRn X d kc ks MX4_fill 7 [some (.ref v0), some (.ref v1), some (.int v2), some (.int v3), none] [] w Q := by
  refine z_iload_n v3 dX4_fill_7 rfl rfl ?_
  refine z_sipush 256 dX4_fill_8 rfl ?_
  refine z_icmp_ge 34 dX4_fill_11 rfl (fun hc => ?_) (fun hc => ?_)
  · rw [if_pos hc] at h
    refine z_aload_n v0 dX4_fill_34 rfl rfl ?_
    obtain ⟨r1, e, h⟩ := h
    refine zq_fR f_X4_9 dX4_fill_35 e ?_
    refine z_iconst 0 dX4_fill_38 rfl ?_
    refine z_iconst 1 dX4_fill_39 rfl ?_
    obtain ⟨w2, e, h⟩ := h
    refine zq_sI dX4_fill_40 e ?_
    refine z_iconst 0 dX4_fill_41 rfl ?_
    refine z_istore_n (i := 3) dX4_fill_42 rfl (by decide) rfl ?_
    exact h
  · rw [if_neg hc] at h
    refine z_aload_n v0 dX4_fill_14 rfl rfl ?_
    obtain ⟨r3, e, h⟩ := h
    refine zq_fR f_X4_9 dX4_fill_15 e ?_
    refine z_iload_n v3 dX4_fill_18 rfl rfl ?_
    refine z_iconst 0 dX4_fill_19 rfl ?_
    obtain ⟨w4, e, h⟩ := h
    refine zq_sI dX4_fill_20 e ?_
    refine z_aload_n v0 dX4_fill_21 rfl rfl ?_
    obtain ⟨r5, e, h⟩ := h
    refine zq_fR f_X4_15 dX4_fill_22 e ?_
    refine z_iload_n v3 dX4_fill_25 rfl rfl ?_
    refine z_iconst 0 dX4_fill_26 rfl ?_
    obtain ⟨w6, e, h⟩ := h
    refine zq_sI dX4_fill_27 e ?_
    refine z_iinc (i := 3) v3 (v3 + 1) dX4_fill_28 rfl rfl (by decide) rfl ?_
    refine z_goto 7 dX4_fill_31 rfl ?_
    exact h
set_option maxRecDepth 100000 in
set_option maxHeartbeats 4000000 in
theorem bX4_fill_43 {X : zX} {d kc ks : Nat} {w : zW} {Q : Option Value → zW → Prop} (v0 : Nat) (v1 : Nat) (v2 : Int32) (v3 : Int32)
    (h : if v2 ≤ v3 then (∃ r1, zfR w v0 4 1 = some r1 ∧ (∃ w2, zsI w r1 v2 1 = some w2 ∧ (zRn X d kc ks MX4_fill 122 [some (.ref v0), some (.ref v1), none, some (.int (v2 - 1)), none] [] w2 Q))) else (zRn X d kc ks MX4_fill 51 [some (.ref v0), some (.ref v1), some (.int v2), some (.int v3), some (.int 0)] [] w Q)) :
    zRn X d kc ks MX4_fill 43 [some (.ref v0), some (.ref v1), some (.int v2), some (.int v3), none] [] w Q := by
  refine z_iload_n v3 dX4_fill_43 rfl rfl ?_
  refine z_iload_n v2 dX4_fill_44 rfl rfl ?_
  refine z_icmp_ge 111 dX4_fill_45 rfl (fun hc => ?_) (fun hc => ?_)
  · rw [if_pos hc] at h
    refine z_aload_n v0 dX4_fill_111 rfl rfl ?_
    obtain ⟨r1, e, h⟩ := h
    refine zq_fR f_X4_15 dX4_fill_112 e ?_
    refine z_iload_n v2 dX4_fill_115 rfl rfl ?_
    refine z_iconst 1 dX4_fill_116 rfl ?_
    obtain ⟨w2, e, h⟩ := h
    refine zq_sI dX4_fill_117 e ?_
    refine z_iload_n v2 dX4_fill_118 rfl rfl ?_
    refine z_iconst 1 dX4_fill_119 rfl ?_
    refine z_isub dX4_fill_120 ?_
    refine z_istore_n (i := 3) dX4_fill_121 rfl (by decide) rfl ?_
    exact zRn.weak h (zLe_of [true, true, false, true, true] (And.intro rfl (And.intro rfl (And.intro rfl (And.intro rfl (And.intro rfl (trivial)))))))
  · rw [if_neg hc] at h
    refine z_iconst 0 dX4_fill_48 rfl ?_
    refine z_istore (i := 4) dX4_fill_49 (by decide) rfl ?_
    exact h
set_option maxRecDepth 100000 in
set_option maxHeartbeats 4000000 in
theorem bX4_fill_51 {X : zX} {d kc ks : Nat} {w : zW} {Q : Option Value → zW → Prop} (v0 : Nat) (v1 : Nat) (v2 : Int32) (v3 : Int32) (v4 : Int32)
    (h : ∃ r1, zfR w v0 4 0 = some r1 ∧ (∃ x2, zaI w r1 v3 = some x2 ∧ (if x2 ≤ 0 then (zRn X d kc ks MX4_fill 105 [some (.ref v0), some (.ref v1), some (.int v2), some (.int v3), none] [] w Q) else (zIs w v1 5 ∧ zCallI X d MX5_size [.ref v1] w (fun x4 w3 => if x4 ≤ v4 then (zRn X d kc ks MX4_fill 105 [some (.ref v0), some (.ref v1), some (.int v2), some (.int v3), none] [] w3 Q) else (zIs w3 v1 5 ∧ zCallI X d MX5_canFollow [.ref v1, .int v3, .int v4] w3 (fun x6 w5 => if x6 = 0 then (zRn X d kc ks MX4_fill 99 [some (.ref v0), some (.ref v1), some (.int v2), some (.int v3), some (.int v4)] [] w5 Q) else (∃ r7, zfR w5 v0 4 0 = some r7 ∧ (∃ x8, zaI w5 r7 (v3 ||| ((1 : Int32) <<< (v4 &&& 31))) = some x8 ∧ (∃ r9, zfR w5 v0 4 0 = some r9 ∧ (∃ x10, zaI w5 r9 v3 = some x10 ∧ (∃ w11, zsI w5 r7 (v3 ||| ((1 : Int32) <<< (v4 &&& 31))) (x8 + x10) = some w11 ∧ (zRn X d kc ks MX4_fill 99 [some (.ref v0), some (.ref v1), some (.int v2), some (.int v3), some (.int v4)] [] w11 Q))))))))))))) :
    zRn X d kc ks MX4_fill 51 [some (.ref v0), some (.ref v1), some (.int v2), some (.int v3), some (.int v4)] [] w Q := by
  refine z_aload_n v0 dX4_fill_51 rfl rfl ?_
  obtain ⟨r1, e, h⟩ := h
  refine zq_fR f_X4_9 dX4_fill_52 e ?_
  refine z_iload_n v3 dX4_fill_55 rfl rfl ?_
  obtain ⟨x2, e, h⟩ := h
  refine zq_aI dX4_fill_56 e ?_
  refine z_if_le 105 dX4_fill_57 rfl (fun hc => ?_) (fun hc => ?_)
  · rw [if_pos hc] at h
    exact zRn.weak h (zLe_of [true, true, true, true, false] (And.intro rfl (And.intro rfl (And.intro rfl (And.intro rfl (And.intro rfl (trivial)))))))
  · rw [if_neg hc] at h
    refine z_iload v4 dX4_fill_60 rfl ?_
    refine z_aload_n v1 dX4_fill_62 rfl rfl ?_
    refine zq_VI (N := MX5_size) (As := []) m_X4_24 dX4_fill_63 rfl rfl (Nat.le_of_ble_eq_true rfl) h (fun x4 w3 h => ?_)
    refine z_icmp_ge 105 dX4_fill_66 rfl (fun hc => ?_) (fun hc => ?_)
    · rw [if_pos hc] at h
      exact zRn.weak h (zLe_of [true, true, true, true, false] (And.intro rfl (And.intro rfl (And.intro rfl (And.intro rfl (And.intro rfl (trivial)))))))
    · rw [if_neg hc] at h
      refine z_aload_n v1 dX4_fill_69 rfl rfl ?_
      refine z_iload_n v3 dX4_fill_70 rfl rfl ?_
      refine z_iload v4 dX4_fill_71 rfl ?_
      refine zq_VI (N := MX5_canFollow) (As := [.int v3, .int v4]) m_X4_27 dX4_fill_73 rfl rfl (Nat.le_of_ble_eq_true rfl) h (fun x6 w5 h => ?_)
      refine z_if_eq 99 dX4_fill_76 rfl (fun hc => ?_) (fun hc => ?_)
      · rw [if_pos hc] at h
        exact h
      · rw [if_neg hc] at h
        refine z_aload_n v0 dX4_fill_79 rfl rfl ?_
        obtain ⟨r7, e, h⟩ := h
        refine zq_fR f_X4_9 dX4_fill_80 e ?_
        refine z_iload_n v3 dX4_fill_83 rfl rfl ?_
        refine z_iconst 1 dX4_fill_84 rfl ?_
        refine z_iload v4 dX4_fill_85 rfl ?_
        refine z_ishl dX4_fill_87 ?_
        refine z_ior dX4_fill_88 ?_
        refine z_dup2 dX4_fill_89 rfl rfl ?_
        obtain ⟨x8, e, h⟩ := h
        refine zq_aI dX4_fill_90 e ?_
        refine z_aload_n v0 dX4_fill_91 rfl rfl ?_
        obtain ⟨r9, e, h⟩ := h
        refine zq_fR f_X4_9 dX4_fill_92 e ?_
        refine z_iload_n v3 dX4_fill_95 rfl rfl ?_
        obtain ⟨x10, e, h⟩ := h
        refine zq_aI dX4_fill_96 e ?_
        refine z_iadd dX4_fill_97 ?_
        obtain ⟨w11, e, h⟩ := h
        refine zq_sI dX4_fill_98 e ?_
        exact h
set_option maxRecDepth 100000 in
set_option maxHeartbeats 4000000 in
theorem bX4_fill_99 {X : zX} {d kc ks : Nat} {w : zW} {Q : Option Value → zW → Prop} (v0 : Nat) (v1 : Nat) (v2 : Int32) (v3 : Int32) (v4 : Int32)
    (h : zRn X d kc ks MX4_fill 51 [some (.ref v0), some (.ref v1), some (.int v2), some (.int v3), some (.int (v4 + 1))] [] w Q) :
    zRn X d kc ks MX4_fill 99 [some (.ref v0), some (.ref v1), some (.int v2), some (.int v3), some (.int v4)] [] w Q := by
  refine z_iinc (i := 4) v4 (v4 + 1) dX4_fill_99 rfl rfl (by decide) rfl ?_
  refine z_goto 51 dX4_fill_102 rfl ?_
  exact h
set_option maxRecDepth 100000 in
set_option maxHeartbeats 4000000 in
theorem bX4_fill_105 {X : zX} {d kc ks : Nat} {w : zW} {Q : Option Value → zW → Prop} (v0 : Nat) (v1 : Nat) (v2 : Int32) (v3 : Int32)
    (h : zRn X d kc ks MX4_fill 43 [some (.ref v0), some (.ref v1), some (.int v2), some (.int (v3 + 1)), none] [] w Q) :
    zRn X d kc ks MX4_fill 105 [some (.ref v0), some (.ref v1), some (.int v2), some (.int v3), none] [] w Q := by
  refine z_iinc (i := 3) v3 (v3 + 1) dX4_fill_105 rfl rfl (by decide) rfl ?_
  refine z_goto 43 dX4_fill_108 rfl ?_
  exact h
set_option maxRecDepth 100000 in
set_option maxHeartbeats 4000000 in
theorem bX4_fill_122 {X : zX} {d kc ks : Nat} {w : zW} {Q : Option Value → zW → Prop} (v0 : Nat) (v1 : Nat) (v3 : Int32)
    (h : if v3 < 0 then (Q none w) else (zRn X d kc ks MX4_fill 129 [some (.ref v0), some (.ref v1), none, some (.int v3), some (.int 0)] [] w Q)) :
    zRn X d kc ks MX4_fill 122 [some (.ref v0), some (.ref v1), none, some (.int v3), none] [] w Q := by
  refine z_iload_n v3 dX4_fill_122 rfl rfl ?_
  refine z_if_lt 189 dX4_fill_123 rfl (fun hc => ?_) (fun hc => ?_)
  · rw [if_pos hc] at h
    exact z_vreturn dX4_fill_189 rfl h
  · rw [if_neg hc] at h
    refine z_iconst 0 dX4_fill_126 rfl ?_
    refine z_istore (i := 4) dX4_fill_127 (by decide) rfl ?_
    exact h
set_option maxRecDepth 100000 in
set_option maxHeartbeats 4000000 in
theorem bX4_fill_129 {X : zX} {d kc ks : Nat} {w : zW} {Q : Option Value → zW → Prop} (v0 : Nat) (v1 : Nat) (v3 : Int32) (v4 : Int32)
    (h : ∃ r1, zfR w v0 4 0 = some r1 ∧ (∃ x2, zaI w r1 v3 = some x2 ∧ (if x2 ≤ 0 then (zRn X d kc ks MX4_fill 183 [some (.ref v0), some (.ref v1), none, some (.int v3), none] [] w Q) else (zIs w v1 5 ∧ zCallI X d MX5_size [.ref v1] w (fun x4 w3 => if x4 ≤ v4 then (zRn X d kc ks MX4_fill 183 [some (.ref v0), some (.ref v1), none, some (.int v3), none] [] w3 Q) else (zIs w3 v1 5 ∧ zCallI X d MX5_canFollow [.ref v1, .int v3, .int v4] w3 (fun x6 w5 => if x6 = 0 then (zRn X d kc ks MX4_fill 177 [some (.ref v0), some (.ref v1), none, some (.int v3), some (.int v4)] [] w5 Q) else (∃ r7, zfR w5 v0 4 1 = some r7 ∧ (∃ x8, zaI w5 r7 v3 = some x8 ∧ (∃ r9, zfR w5 v0 4 1 = some r9 ∧ (∃ x10, zaI w5 r9 (v3 ||| ((1 : Int32) <<< (v4 &&& 31))) = some x10 ∧ (∃ w11, zsI w5 r7 v3 (x8 + x10) = some w11 ∧ (zRn X d kc ks MX4_fill 177 [some (.ref v0), some (.ref v1), none, some (.int v3), some (.int v4)] [] w11 Q))))))))))))) :
    zRn X d kc ks MX4_fill 129 [some (.ref v0), some (.ref v1), none, some (.int v3), some (.int v4)] [] w Q := by
  refine z_aload_n v0 dX4_fill_129 rfl rfl ?_
  obtain ⟨r1, e, h⟩ := h
  refine zq_fR f_X4_9 dX4_fill_130 e ?_
  refine z_iload_n v3 dX4_fill_133 rfl rfl ?_
  obtain ⟨x2, e, h⟩ := h
  refine zq_aI dX4_fill_134 e ?_
  refine z_if_le 183 dX4_fill_135 rfl (fun hc => ?_) (fun hc => ?_)
  · rw [if_pos hc] at h
    exact zRn.weak h (zLe_of [true, true, true, true, false] (And.intro rfl (And.intro rfl (And.intro rfl (And.intro rfl (And.intro rfl (trivial)))))))
  · rw [if_neg hc] at h
    refine z_iload v4 dX4_fill_138 rfl ?_
    refine z_aload_n v1 dX4_fill_140 rfl rfl ?_
    refine zq_VI (N := MX5_size) (As := []) m_X4_24 dX4_fill_141 rfl rfl (Nat.le_of_ble_eq_true rfl) h (fun x4 w3 h => ?_)
    refine z_icmp_ge 183 dX4_fill_144 rfl (fun hc => ?_) (fun hc => ?_)
    · rw [if_pos hc] at h
      exact zRn.weak h (zLe_of [true, true, true, true, false] (And.intro rfl (And.intro rfl (And.intro rfl (And.intro rfl (And.intro rfl (trivial)))))))
    · rw [if_neg hc] at h
      refine z_aload_n v1 dX4_fill_147 rfl rfl ?_
      refine z_iload_n v3 dX4_fill_148 rfl rfl ?_
      refine z_iload v4 dX4_fill_149 rfl ?_
      refine zq_VI (N := MX5_canFollow) (As := [.int v3, .int v4]) m_X4_27 dX4_fill_151 rfl rfl (Nat.le_of_ble_eq_true rfl) h (fun x6 w5 h => ?_)
      refine z_if_eq 177 dX4_fill_154 rfl (fun hc => ?_) (fun hc => ?_)
      · rw [if_pos hc] at h
        exact h
      · rw [if_neg hc] at h
        refine z_aload_n v0 dX4_fill_157 rfl rfl ?_
        obtain ⟨r7, e, h⟩ := h
        refine zq_fR f_X4_15 dX4_fill_158 e ?_
        refine z_iload_n v3 dX4_fill_161 rfl rfl ?_
        refine z_dup2 dX4_fill_162 rfl rfl ?_
        obtain ⟨x8, e, h⟩ := h
        refine zq_aI dX4_fill_163 e ?_
        refine z_aload_n v0 dX4_fill_164 rfl rfl ?_
        obtain ⟨r9, e, h⟩ := h
        refine zq_fR f_X4_15 dX4_fill_165 e ?_
        refine z_iload_n v3 dX4_fill_168 rfl rfl ?_
        refine z_iconst 1 dX4_fill_169 rfl ?_
        refine z_iload v4 dX4_fill_170 rfl ?_
        refine z_ishl dX4_fill_172 ?_
        refine z_ior dX4_fill_173 ?_
        obtain ⟨x10, e, h⟩ := h
        refine zq_aI dX4_fill_174 e ?_
        refine z_iadd dX4_fill_175 ?_
        obtain ⟨w11, e, h⟩ := h
        refine zq_sI dX4_fill_176 e ?_
        exact h
set_option maxRecDepth 100000 in
set_option maxHeartbeats 4000000 in
theorem bX4_fill_177 {X : zX} {d kc ks : Nat} {w : zW} {Q : Option Value → zW → Prop} (v0 : Nat) (v1 : Nat) (v3 : Int32) (v4 : Int32)
    (h : zRn X d kc ks MX4_fill 129 [some (.ref v0), some (.ref v1), none, some (.int v3), some (.int (v4 + 1))] [] w Q) :
    zRn X d kc ks MX4_fill 177 [some (.ref v0), some (.ref v1), none, some (.int v3), some (.int v4)] [] w Q := by
  refine z_iinc (i := 4) v4 (v4 + 1) dX4_fill_177 rfl rfl (by decide) rfl ?_
  refine z_goto 129 dX4_fill_180 rfl ?_
  exact h
set_option maxRecDepth 100000 in
set_option maxHeartbeats 4000000 in
theorem bX4_fill_183 {X : zX} {d kc ks : Nat} {w : zW} {Q : Option Value → zW → Prop} (v0 : Nat) (v1 : Nat) (v3 : Int32)
    (h : zRn X d kc ks MX4_fill 122 [some (.ref v0), some (.ref v1), none, some (.int (v3 - 1)), none] [] w Q) :
    zRn X d kc ks MX4_fill 183 [some (.ref v0), some (.ref v1), none, some (.int v3), none] [] w Q := by
  refine z_iinc (i := 3) v3 (v3 - 1) dX4_fill_183 rfl (zdec _) (by decide) rfl ?_
  refine z_goto 122 dX4_fill_186 rfl ?_
  exact h
theorem eX4_fill {X : zX} {d kc ks : Nat} {w : zW} {Q : Option Value → zW → Prop} (p0 : Nat) (p1 : Nat) (h : zRn X d kc ks MX4_fill 0 [some (.ref p0), some (.ref p1), none, none, none] [] w Q) : zEv X d kc ks MX4_fill [.ref p0, .ref p1] w Q :=
  zEv.of (by decide) (Nat.le_of_ble_eq_true rfl) (Or.inr (by simp [Value.category])) h
set_option maxRecDepth 100000 in
set_option maxHeartbeats 4000000 in
theorem bX4_total_0 {X : zX} {d kc ks : Nat} {w : zW} {Q : Option Value → zW → Prop} (p0 : Nat)
    (h : ∃ r1, zfR w p0 4 1 = some r1 ∧ (∃ x2, zaI w r1 0 = some x2 ∧ (Q (some (.int x2)) w))) :
    zRn X d kc ks MX4_total 0 [some (.ref p0)] [] w Q := by
  refine z_aload_n p0 dX4_total_0 rfl rfl ?_
  obtain ⟨r1, e, h⟩ := h
  refine zq_fR f_X4_15 dX4_total_1 e ?_
  refine z_iconst 0 dX4_total_4 rfl ?_
  obtain ⟨x2, e, h⟩ := h
  refine zq_aI dX4_total_5 e ?_
  exact z_ireturn .int dX4_total_6 rfl rfl h
theorem eX4_total {X : zX} {d kc ks : Nat} {w : zW} {Q : Option Value → zW → Prop} (p0 : Nat) (h : zRn X d kc ks MX4_total 0 [some (.ref p0)] [] w Q) : zEv X d kc ks MX4_total [.ref p0] w Q :=
  zEv.of (by decide) (Nat.le_of_ble_eq_true rfl) (Or.inr (by simp [Value.category])) h
set_option maxRecDepth 100000 in
set_option maxHeartbeats 4000000 in
theorem bX4_thingAt_0 {X : zX} {d kc ks : Nat} {w : zW} {Q : Option Value → zW → Prop} (p0 : Nat) (p1 : Nat) (a2 : Int32) (a3 : Int32)
    (h : if a2 < 0 then (Q (some (.int (-1))) w) else (zIs w p0 4 ∧ zCallI X d MX4_total [.ref p0] w (fun x2 w1 => if a2 < x2 then (zRn X d kc ks MX4_thingAt 26 [some (.ref p0), some (.ref p1), none, some (.int a3), some (.int a2), some (.int 0), some (.int (-1)), some (.int 0), none] [] w1 Q) else (Q (some (.int (-1))) w1)))) :
    zRn X d kc ks MX4_thingAt 0 [some (.ref p0), some (.ref p1), some (.int a2), some (.int a3), none, none, none, none, none] [] w Q := by
  refine z_iload_n a2 dX4_thingAt_0 rfl rfl ?_
  refine z_if_lt 12 dX4_thingAt_1 rfl (fun hc => ?_) (fun hc => ?_)
  · rw [if_pos hc] at h
    refine z_iconst (-1) dX4_thingAt_12 rfl ?_
    exact z_ireturn .int dX4_thingAt_13 rfl rfl h
  · rw [if_neg hc] at h
    refine z_iload_n a2 dX4_thingAt_4 rfl rfl ?_
    refine z_aload_n p0 dX4_thingAt_5 rfl rfl ?_
    refine zq_VI (N := MX4_total) (As := []) m_X4_31 dX4_thingAt_6 rfl rfl (Nat.le_of_ble_eq_true rfl) h (fun x2 w1 h => ?_)
    refine z_icmp_lt 14 dX4_thingAt_9 rfl (fun hc => ?_) (fun hc => ?_)
    · rw [if_pos hc] at h
      refine z_iload_n a2 dX4_thingAt_14 rfl rfl ?_
      refine z_istore (i := 4) dX4_thingAt_15 (by decide) rfl ?_
      refine z_iconst 0 dX4_thingAt_17 rfl ?_
      refine z_istore (i := 5) dX4_thingAt_18 (by decide) rfl ?_
      refine z_iconst (-1) dX4_thingAt_20 rfl ?_
      refine z_istore (i := 6) dX4_thingAt_21 (by decide) rfl ?_
      refine z_iconst 0 dX4_thingAt_23 rfl ?_
      refine z_istore (i := 7) dX4_thingAt_24 (by decide) rfl ?_
      exact zRn.weak h (zLe_of [true, true, false, true, true, true, true, true, true] (And.intro rfl (And.intro rfl (And.intro rfl (And.intro rfl (And.intro rfl (And.intro rfl (And.intro rfl (And.intro rfl (And.intro rfl (trivial)))))))))))
    · rw [if_neg hc] at h
      refine z_iconst (-1) dX4_thingAt_12 rfl ?_
      exact z_ireturn .int dX4_thingAt_13 rfl rfl h
set_option maxRecDepth 100000 in
set_option maxHeartbeats 4000000 in
theorem bX4_thingAt_26 {X : zX} {d kc ks : Nat} {w : zW} {Q : Option Value → zW → Prop} (v0 : Nat) (v1 : Nat) (v3 : Int32) (v4 : Int32) (v5 : Int32) (v6 : Int32) (v7 : Int32)
    (h : if v3 < v7 then (Q (some (.int v6)) w) else (zIs w v1 5 ∧ zCallI X d MX5_size [.ref v1] w (fun x2 w1 => if x2 ≤ v7 then (Q (some (.int v6)) w1) else (zRn X d kc ks MX4_thingAt 44 [some (.ref v0), some (.ref v1), none, some (.int v3), some (.int v4), some (.int v5), some (.int 0), some (.int v7), none] [] w1 Q)))) :
    zRn X d kc ks MX4_thingAt 26 [some (.ref v0), some (.ref v1), none, some (.int v3), some (.int v4), some (.int v5), some (.int v6), some (.int v7), none] [] w Q := by
  refine z_iload v7 dX4_thingAt_26 rfl ?_
  refine z_iload_n v3 dX4_thingAt_28 rfl rfl ?_
  refine z_icmp_gt 102 dX4_thingAt_29 rfl (fun hc => ?_) (fun hc => ?_)
  · rw [if_pos hc] at h
    refine z_iload v6 dX4_thingAt_102 rfl ?_
    exact z_ireturn .int dX4_thingAt_104 rfl rfl h
  · rw [if_neg hc] at h
    refine z_iload v7 dX4_thingAt_32 rfl ?_
    refine z_aload_n v1 dX4_thingAt_34 rfl rfl ?_
    refine zq_VI (N := MX5_size) (As := []) m_X4_24 dX4_thingAt_35 rfl rfl (Nat.le_of_ble_eq_true rfl) h (fun x2 w1 h => ?_)
    refine z_icmp_ge 102 dX4_thingAt_38 rfl (fun hc => ?_) (fun hc => ?_)
    · rw [if_pos hc] at h
      refine z_iload v6 dX4_thingAt_102 rfl ?_
      exact z_ireturn .int dX4_thingAt_104 rfl rfl h
    · rw [if_neg hc] at h
      refine z_iconst 0 dX4_thingAt_41 rfl ?_
      refine z_istore (i := 6) dX4_thingAt_42 (by decide) rfl ?_
      exact h
set_option maxRecDepth 100000 in
set_option maxHeartbeats 4000000 in
theorem bX4_thingAt_44 {X : zX} {d kc ks : Nat} {w : zW} {Q : Option Value → zW → Prop} (v0 : Nat) (v1 : Nat) (v3 : Int32) (v4 : Int32) (v5 : Int32) (v6 : Int32) (v7 : Int32)
    (h : zIs w v1 5 ∧ zCallI X d MX5_size [.ref v1] w (fun x2 w1 => if x2 ≤ v6 then (zRn X d kc ks MX4_thingAt 87 [some (.ref v0), some (.ref v1), none, some (.int v3), some (.int v4), some (.int v5), some (.int v6), some (.int v7), none] [] w1 Q) else (zIs w1 v0 4 ∧ zCallI X d MX4_waysWith [.ref v0, .ref v1, .int v5, .int v6] w1 (fun x4 w3 => if x4 ≤ v4 then (zRn X d kc ks MX4_thingAt 44 [some (.ref v0), some (.ref v1), none, some (.int v3), some (.int (v4 - x4)), some (.int v5), some (.int (v6 + 1)), some (.int v7), none] [] w3 Q) else (zRn X d kc ks MX4_thingAt 87 [some (.ref v0), some (.ref v1), none, some (.int v3), some (.int v4), some (.int v5), some (.int v6), some (.int v7), none] [] w3 Q))))) :
    zRn X d kc ks MX4_thingAt 44 [some (.ref v0), some (.ref v1), none, some (.int v3), some (.int v4), some (.int v5), some (.int v6), some (.int v7), none] [] w Q := by
  refine z_iload v6 dX4_thingAt_44 rfl ?_
  refine z_aload_n v1 dX4_thingAt_46 rfl rfl ?_
  refine zq_VI (N := MX5_size) (As := []) m_X4_24 dX4_thingAt_47 rfl rfl (Nat.le_of_ble_eq_true rfl) h (fun x2 w1 h => ?_)
  refine z_icmp_ge 87 dX4_thingAt_50 rfl (fun hc => ?_) (fun hc => ?_)
  · rw [if_pos hc] at h
    exact h
  · rw [if_neg hc] at h
    refine z_aload_n v0 dX4_thingAt_53 rfl rfl ?_
    refine z_aload_n v1 dX4_thingAt_54 rfl rfl ?_
    refine z_iload v5 dX4_thingAt_55 rfl ?_
    refine z_iload v6 dX4_thingAt_57 rfl ?_
    refine zq_VI (N := MX4_waysWith) (As := [.ref v1, .int v5, .int v6]) m_X4_34 dX4_thingAt_59 rfl rfl (Nat.le_of_ble_eq_true rfl) h (fun x4 w3 h => ?_)
    refine z_istore (i := 8) dX4_thingAt_62 (by decide) rfl ?_
    refine z_iload v4 dX4_thingAt_64 rfl ?_
    refine z_iload x4 dX4_thingAt_66 rfl ?_
    refine z_icmp_ge 74 dX4_thingAt_68 rfl (fun hc => ?_) (fun hc => ?_)
    · rw [if_pos hc] at h
      refine z_iload v4 dX4_thingAt_74 rfl ?_
      refine z_iload x4 dX4_thingAt_76 rfl ?_
      refine z_isub dX4_thingAt_78 ?_
      refine z_istore (i := 4) dX4_thingAt_79 (by decide) rfl ?_
      refine z_iinc (i := 6) v6 (v6 + 1) dX4_thingAt_81 rfl rfl (by decide) rfl ?_
      refine z_goto 44 dX4_thingAt_84 rfl ?_
      exact zRn.weak h (zLe_of [true, true, true, true, true, true, true, true, false] (And.intro rfl (And.intro rfl (And.intro rfl (And.intro rfl (And.intro rfl (And.intro rfl (And.intro rfl (And.intro rfl (And.intro rfl (trivial)))))))))))
    · rw [if_neg hc] at h
      refine z_goto 87 dX4_thingAt_71 rfl ?_
      exact zRn.weak h (zLe_of [true, true, true, true, true, true, true, true, false] (And.intro rfl (And.intro rfl (And.intro rfl (And.intro rfl (And.intro rfl (And.intro rfl (And.intro rfl (And.intro rfl (And.intro rfl (trivial)))))))))))
set_option maxRecDepth 100000 in
set_option maxHeartbeats 4000000 in
theorem bX4_thingAt_87 {X : zX} {d kc ks : Nat} {w : zW} {Q : Option Value → zW → Prop} (v0 : Nat) (v1 : Nat) (v3 : Int32) (v4 : Int32) (v5 : Int32) (v6 : Int32) (v7 : Int32)
    (h : zRn X d kc ks MX4_thingAt 26 [some (.ref v0), some (.ref v1), none, some (.int v3), some (.int v4), some (.int (v5 ||| ((1 : Int32) <<< (v6 &&& 31)))), some (.int v6), some (.int (v7 + 1)), none] [] w Q) :
    zRn X d kc ks MX4_thingAt 87 [some (.ref v0), some (.ref v1), none, some (.int v3), some (.int v4), some (.int v5), some (.int v6), some (.int v7), none] [] w Q := by
  refine z_iload v5 dX4_thingAt_87 rfl ?_
  refine z_iconst 1 dX4_thingAt_89 rfl ?_
  refine z_iload v6 dX4_thingAt_90 rfl ?_
  refine z_ishl dX4_thingAt_92 ?_
  refine z_ior dX4_thingAt_93 ?_
  refine z_istore (i := 5) dX4_thingAt_94 (by decide) rfl ?_
  refine z_iinc (i := 7) v7 (v7 + 1) dX4_thingAt_96 rfl rfl (by decide) rfl ?_
  refine z_goto 26 dX4_thingAt_99 rfl ?_
  exact h
theorem eX4_thingAt {X : zX} {d kc ks : Nat} {w : zW} {Q : Option Value → zW → Prop} (p0 : Nat) (p1 : Nat) (a2 : Int32) (a3 : Int32) (h : zRn X d kc ks MX4_thingAt 0 [some (.ref p0), some (.ref p1), some (.int a2), some (.int a3), none, none, none, none, none] [] w Q) : zEv X d kc ks MX4_thingAt [.ref p0, .ref p1, .int a2, .int a3] w Q :=
  zEv.of (by decide) (Nat.le_of_ble_eq_true rfl) (Or.inr (by simp [Value.category])) h
set_option maxRecDepth 100000 in
set_option maxHeartbeats 4000000 in
theorem bX4_waysWith_0 {X : zX} {d kc ks : Nat} {w : zW} {Q : Option Value → zW → Prop} (p0 : Nat) (p1 : Nat) (a2 : Int32) (a3 : Int32)
    (h : zIs w p1 5 ∧ zCallI X d MX5_canFollow [.ref p1, .int a2, .int a3] w (fun x2 w1 => if x2 = 0 then (Q (some (.int 0)) w1) else (∃ r3, zfR w1 p0 4 1 = some r3 ∧ (∃ x4, zaI w1 r3 ((a2 ||| ((1 : Int32) <<< (a3 &&& 31))) &&& 255) = some x4 ∧ (Q (some (.int x4)) w1))))) :
    zRn X d kc ks MX4_waysWith 0 [some (.ref p0), some (.ref p1), some (.int a2), some (.int a3)] [] w Q := by
  refine z_aload_n p1 dX4_waysWith_0 rfl rfl ?_
  refine z_iload_n a2 dX4_waysWith_1 rfl rfl ?_
  refine z_iload_n a3 dX4_waysWith_2 rfl rfl ?_
  refine zq_VI (N := MX5_canFollow) (As := [.int a2, .int a3]) m_X4_27 dX4_waysWith_3 rfl rfl (Nat.le_of_ble_eq_true rfl) h (fun x2 w1 h => ?_)
  refine z_if_eq 26 dX4_waysWith_6 rfl (fun hc => ?_) (fun hc => ?_)
  · rw [if_pos hc] at h
    refine z_iconst 0 dX4_waysWith_26 rfl ?_
    exact z_ireturn .int dX4_waysWith_27 rfl rfl h
  · rw [if_neg hc] at h
    refine z_aload_n p0 dX4_waysWith_9 rfl rfl ?_
    obtain ⟨r3, e, h⟩ := h
    refine zq_fR f_X4_15 dX4_waysWith_10 e ?_
    refine z_iload_n a2 dX4_waysWith_13 rfl rfl ?_
    refine z_iconst 1 dX4_waysWith_14 rfl ?_
    refine z_iload_n a3 dX4_waysWith_15 rfl rfl ?_
    refine z_ishl dX4_waysWith_16 ?_
    refine z_ior dX4_waysWith_17 ?_
    refine z_sipush 255 dX4_waysWith_18 rfl ?_
    refine z_iand dX4_waysWith_21 ?_
    obtain ⟨x4, e, h⟩ := h
    refine zq_aI dX4_waysWith_22 e ?_
    refine z_goto 27 dX4_waysWith_23 rfl ?_
    exact z_ireturn .int dX4_waysWith_27 rfl rfl h
theorem eX4_waysWith {X : zX} {d kc ks : Nat} {w : zW} {Q : Option Value → zW → Prop} (p0 : Nat) (p1 : Nat) (a2 : Int32) (a3 : Int32) (h : zRn X d kc ks MX4_waysWith 0 [some (.ref p0), some (.ref p1), some (.int a2), some (.int a3)] [] w Q) : zEv X d kc ks MX4_waysWith [.ref p0, .ref p1, .int a2, .int a3] w Q :=
  zEv.of (by decide) (Nat.le_of_ble_eq_true rfl) (Or.inr (by simp [Value.category])) h
set_option maxRecDepth 100000 in
set_option maxHeartbeats 4000000 in
theorem bX4_numberOf_0 {X : zX} {d kc ks : Nat} {w : zW} {Q : Option Value → zW → Prop} (p0 : Nat) (p1 : Nat) (a2 : Int32)
    (h : zRn X d kc ks MX4_numberOf 8 [some (.ref p0), some (.ref p1), some (.int a2), some (.int 0), some (.int 0), some (.int 0), none, none] [] w Q) :
    zRn X d kc ks MX4_numberOf 0 [some (.ref p0), some (.ref p1), some (.int a2), none, none, none, none, none] [] w Q := by
  refine z_iconst 0 dX4_numberOf_0 rfl ?_
  refine z_istore_n (i := 3) dX4_numberOf_1 rfl (by decide) rfl ?_
  refine z_iconst 0 dX4_numberOf_2 rfl ?_
  refine z_istore (i := 4) dX4_numberOf_3 (by decide) rfl ?_
  refine z_iconst 0 dX4_numberOf_5 rfl ?_
  refine z_istore (i := 5) dX4_numberOf_6 (by decide) rfl ?_
  exact h
set_option maxRecDepth 100000 in
set_option maxHeartbeats 4000000 in
theorem bX4_numberOf_8 {X : zX} {d kc ks : Nat} {w : zW} {Q : Option Value → zW → Prop} (v0 : Nat) (v1 : Nat) (v2 : Int32) (v3 : Int32) (v4 : Int32) (v5 : Int32)
    (h : zIs w v1 5 ∧ zCallI X d MX5_size [.ref v1] w (fun x2 w1 => if x2 ≤ v5 then (Q (some (.int v3)) w1) else (zIs w1 v1 5 ∧ zCallR X d MX5_rows [.ref v1] w1 (fun r4 w3 => zIs w3 r4 8 ∧ zCallI X d MX8_thingAt [.ref r4, .int v2, .int v5] w3 (fun x6 w5 => zIs w5 v1 5 ∧ zCallI X d MX5_canFollow [.ref v1, .int v4, .int x6] w5 (fun x8 w7 => if x8 = 0 then (Q (some (.int (-1))) w7) else (zRn X d kc ks MX4_numberOf 45 [some (.ref v0), some (.ref v1), some (.int v2), some (.int v3), some (.int v4), some (.int v5), some (.int x6), some (.int 0)] [] w7 Q))))))) :
    zRn X d kc ks MX4_numberOf 8 [some (.ref v0), some (.ref v1), some (.int v2), some (.int v3), some (.int v4), some (.int v5), none, none] [] w Q := by
  refine z_iload v5 dX4_numberOf_8 rfl ?_
  refine z_aload_n v1 dX4_numberOf_10 rfl rfl ?_
  refine zq_VI (N := MX5_size) (As := []) m_X4_24 dX4_numberOf_11 rfl rfl (Nat.le_of_ble_eq_true rfl) h (fun x2 w1 h => ?_)
  refine z_icmp_ge 85 dX4_numberOf_14 rfl (fun hc => ?_) (fun hc => ?_)
  · rw [if_pos hc] at h
    refine z_iload_n v3 dX4_numberOf_85 rfl rfl ?_
    exact z_ireturn .int dX4_numberOf_86 rfl rfl h
  · rw [if_neg hc] at h
    refine z_aload_n v1 dX4_numberOf_17 rfl rfl ?_
    refine zq_VR (N := MX5_rows) (As := []) m_X4_38 dX4_numberOf_18 rfl rfl (Nat.le_of_ble_eq_true rfl) h (fun r4 w3 h => ?_)
    refine z_iload_n v2 dX4_numberOf_21 rfl rfl ?_
    refine z_iload v5 dX4_numberOf_22 rfl ?_
    refine zq_VI (N := MX8_thingAt) (As := [.int v2, .int v5]) m_X4_42 dX4_numberOf_24 rfl rfl (Nat.le_of_ble_eq_true rfl) h (fun x6 w5 h => ?_)
    refine z_istore (i := 6) dX4_numberOf_27 (by decide) rfl ?_
    refine z_aload_n v1 dX4_numberOf_29 rfl rfl ?_
    refine z_iload v4 dX4_numberOf_30 rfl ?_
    refine z_iload x6 dX4_numberOf_32 rfl ?_
    refine zq_VI (N := MX5_canFollow) (As := [.int v4, .int x6]) m_X4_27 dX4_numberOf_34 rfl rfl (Nat.le_of_ble_eq_true rfl) h (fun x8 w7 h => ?_)
    refine z_if_ne 42 dX4_numberOf_37 rfl (fun hc => ?_) (fun hc => ?_)
    · rw [if_neg hc] at h
      refine z_iconst 0 dX4_numberOf_42 rfl ?_
      refine z_istore (i := 7) dX4_numberOf_43 (by decide) rfl ?_
      exact h
    · rw [if_pos hc] at h
      refine z_iconst (-1) dX4_numberOf_40 rfl ?_
      exact z_ireturn .int dX4_numberOf_41 rfl rfl h
set_option maxRecDepth 100000 in
set_option maxHeartbeats 4000000 in
theorem bX4_numberOf_45 {X : zX} {d kc ks : Nat} {w : zW} {Q : Option Value → zW → Prop} (v0 : Nat) (v1 : Nat) (v2 : Int32) (v3 : Int32) (v4 : Int32) (v5 : Int32) (v6 : Int32) (v7 : Int32)
    (h : if v6 ≤ v7 then (zRn X d kc ks MX4_numberOf 8 [some (.ref v0), some (.ref v1), some (.int v2), some (.int v3), some (.int (v4 ||| ((1 : Int32) <<< (v6 &&& 31)))), some (.int (v5 + 1)), none, none] [] w Q) else (zIs w v0 4 ∧ zCallI X d MX4_waysWith [.ref v0, .ref v1, .int v4, .int v7] w (fun x2 w1 => zRn X d kc ks MX4_numberOf 45 [some (.ref v0), some (.ref v1), some (.int v2), some (.int (v3 + x2)), some (.int v4), some (.int v5), some (.int v6), some (.int (v7 + 1))] [] w1 Q))) :
    zRn X d kc ks MX4_numberOf 45 [some (.ref v0), some (.ref v1), some (.int v2), some (.int v3), some (.int v4), some (.int v5), some (.int v6), some (.int v7)] [] w Q := by
  refine z_iload v7 dX4_numberOf_45 rfl ?_
  refine z_iload v6 dX4_numberOf_47 rfl ?_
  refine z_icmp_ge 70 dX4_numberOf_49 rfl (fun hc => ?_) (fun hc => ?_)
  · rw [if_pos hc] at h
    refine z_iload v4 dX4_numberOf_70 rfl ?_
    refine z_iconst 1 dX4_numberOf_72 rfl ?_
    refine z_iload v6 dX4_numberOf_73 rfl ?_
    refine z_ishl dX4_numberOf_75 ?_
    refine z_ior dX4_numberOf_76 ?_
    refine z_istore (i := 4) dX4_numberOf_77 (by decide) rfl ?_
    refine z_iinc (i := 5) v5 (v5 + 1) dX4_numberOf_79 rfl rfl (by decide) rfl ?_
    refine z_goto 8 dX4_numberOf_82 rfl ?_
    exact zRn.weak h (zLe_of [true, true, true, true, true, true, false, false] (And.intro rfl (And.intro rfl (And.intro rfl (And.intro rfl (And.intro rfl (And.intro rfl (And.intro rfl (And.intro rfl (trivial))))))))))
  · rw [if_neg hc] at h
    refine z_iload_n v3 dX4_numberOf_52 rfl rfl ?_
    refine z_aload_n v0 dX4_numberOf_53 rfl rfl ?_
    refine z_aload_n v1 dX4_numberOf_54 rfl rfl ?_
    refine z_iload v4 dX4_numberOf_55 rfl ?_
    refine z_iload v7 dX4_numberOf_57 rfl ?_
    refine zq_VI (N := MX4_waysWith) (As := [.ref v1, .int v4, .int v7]) m_X4_34 dX4_numberOf_59 rfl rfl (Nat.le_of_ble_eq_true rfl) h (fun x2 w1 h => ?_)
    refine z_iadd dX4_numberOf_62 ?_
    refine z_istore_n (i := 3) dX4_numberOf_63 rfl (by decide) rfl ?_
    refine z_iinc (i := 7) v7 (v7 + 1) dX4_numberOf_64 rfl rfl (by decide) rfl ?_
    refine z_goto 45 dX4_numberOf_67 rfl ?_
    exact h
theorem eX4_numberOf {X : zX} {d kc ks : Nat} {w : zW} {Q : Option Value → zW → Prop} (p0 : Nat) (p1 : Nat) (a2 : Int32) (h : zRn X d kc ks MX4_numberOf 0 [some (.ref p0), some (.ref p1), some (.int a2), none, none, none, none, none] [] w Q) : zEv X d kc ks MX4_numberOf [.ref p0, .ref p1, .int a2] w Q :=
  zEv.of (by decide) (Nat.le_of_ble_eq_true rfl) (Or.inr (by simp [Value.category])) h
set_option maxRecDepth 100000 in
set_option maxHeartbeats 4000000 in
theorem bX4_thatBeginWith_0 {X : zX} {d kc ks : Nat} {w : zW} {Q : Option Value → zW → Prop} (p0 : Nat) (a1 : Int32)
    (h : if a1 < 0 then (Q (some (.int 0)) w) else (if 256 ≤ a1 then (Q (some (.int 0)) w) else (∃ r1, zfR w p0 4 0 = some r1 ∧ (∃ x2, zaI w r1 a1 = some x2 ∧ (∃ r3, zfR w p0 4 1 = some r3 ∧ (∃ x4, zaI w r3 a1 = some x4 ∧ (Q (some (.int (x2 * x4))) w))))))) :
    zRn X d kc ks MX4_thatBeginWith 0 [some (.ref p0), some (.int a1)] [] w Q := by
  refine z_iload_n a1 dX4_thatBeginWith_0 rfl rfl ?_
  refine z_if_lt 27 dX4_thatBeginWith_1 rfl (fun hc => ?_) (fun hc => ?_)
  · rw [if_pos hc] at h
    refine z_iconst 0 dX4_thatBeginWith_27 rfl ?_
    exact z_ireturn .int dX4_thatBeginWith_28 rfl rfl h
  · rw [if_neg hc] at h
    refine z_iload_n a1 dX4_thatBeginWith_4 rfl rfl ?_
    refine z_sipush 256 dX4_thatBeginWith_5 rfl ?_
    refine z_icmp_ge 27 dX4_thatBeginWith_8 rfl (fun hc => ?_) (fun hc => ?_)
    · rw [if_pos hc] at h
      refine z_iconst 0 dX4_thatBeginWith_27 rfl ?_
      exact z_ireturn .int dX4_thatBeginWith_28 rfl rfl h
    · rw [if_neg hc] at h
      refine z_aload_n p0 dX4_thatBeginWith_11 rfl rfl ?_
      obtain ⟨r1, e, h⟩ := h
      refine zq_fR f_X4_9 dX4_thatBeginWith_12 e ?_
      refine z_iload_n a1 dX4_thatBeginWith_15 rfl rfl ?_
      obtain ⟨x2, e, h⟩ := h
      refine zq_aI dX4_thatBeginWith_16 e ?_
      refine z_aload_n p0 dX4_thatBeginWith_17 rfl rfl ?_
      obtain ⟨r3, e, h⟩ := h
      refine zq_fR f_X4_15 dX4_thatBeginWith_18 e ?_
      refine z_iload_n a1 dX4_thatBeginWith_21 rfl rfl ?_
      obtain ⟨x4, e, h⟩ := h
      refine zq_aI dX4_thatBeginWith_22 e ?_
      refine z_imul dX4_thatBeginWith_23 ?_
      refine z_goto 28 dX4_thatBeginWith_24 rfl ?_
      exact z_ireturn .int dX4_thatBeginWith_28 rfl rfl h
theorem eX4_thatBeginWith {X : zX} {d kc ks : Nat} {w : zW} {Q : Option Value → zW → Prop} (p0 : Nat) (a1 : Int32) (h : zRn X d kc ks MX4_thatBeginWith 0 [some (.ref p0), some (.int a1)] [] w Q) : zEv X d kc ks MX4_thatBeginWith [.ref p0, .int a1] w Q :=
  zEv.of (by decide) (Nat.le_of_ble_eq_true rfl) (Or.inr (by simp [Value.category])) h
set_option maxRecDepth 100000 in
set_option maxHeartbeats 4000000 in
theorem bX4_withFirstAhead_0 {X : zX} {d kc ks : Nat} {w : zW} {Q : Option Value → zW → Prop} (p0 : Nat) (p1 : Nat) (a2 : Int32) (a3 : Int32)
    (h : zRn X d kc ks MX4_withFirstAhead 6 [some (.ref p0), some (.ref p1), some (.int a2), some (.int a3), some (.int 0), some (.int 0)] [] w Q) :
    zRn X d kc ks MX4_withFirstAhead 0 [some (.ref p0), some (.ref p1), some (.int a2), some (.int a3), none, none] [] w Q := by
  refine z_iconst 0 dX4_withFirstAhead_0 rfl ?_
  refine z_istore (i := 4) dX4_withFirstAhead_1 (by decide) rfl ?_
  refine z_iconst 0 dX4_withFirstAhead_3 rfl ?_
  refine z_istore (i := 5) dX4_withFirstAhead_4 (by decide) rfl ?_
  exact h
set_option maxRecDepth 100000 in
set_option maxHeartbeats 4000000 in
theorem bX4_withFirstAhead_6 {X : zX} {d kc ks : Nat} {w : zW} {Q : Option Value → zW → Prop} (v0 : Nat) (v1 : Nat) (v2 : Int32) (v3 : Int32) (v4 : Int32) (v5 : Int32)
    (h : zIs w v1 5 ∧ zCallI X d MX5_all [.ref v1] w (fun x2 w1 => if x2 ≤ v5 then (Q (some (.int v4)) w1) else (if ((v5 >>> (v2 &&& 31)) &&& 1) = 1 then (∃ r3, zfR w1 v0 4 0 = some r3 ∧ (∃ x4, zaI w1 r3 v5 = some x4 ∧ (zIs w1 v0 4 ∧ zCallI X d MX4_waysWith [.ref v0, .ref v1, .int v5, .int v3] w1 (fun x6 w5 => zRn X d kc ks MX4_withFirstAhead 46 [some (.ref v0), some (.ref v1), some (.int v2), some (.int v3), some (.int (v4 + (x4 * x6))), some (.int v5)] [] w5 Q)))) else (zRn X d kc ks MX4_withFirstAhead 46 [some (.ref v0), some (.ref v1), some (.int v2), some (.int v3), some (.int v4), some (.int v5)] [] w1 Q)))) :
    zRn X d kc ks MX4_withFirstAhead 6 [some (.ref v0), some (.ref v1), some (.int v2), some (.int v3), some (.int v4), some (.int v5)] [] w Q := by
  refine z_iload v5 dX4_withFirstAhead_6 rfl ?_
  refine z_aload_n v1 dX4_withFirstAhead_8 rfl rfl ?_
  refine zq_VI (N := MX5_all) (As := []) m_X4_18 dX4_withFirstAhead_9 rfl rfl (Nat.le_of_ble_eq_true rfl) h (fun x2 w1 h => ?_)
  refine z_icmp_ge 52 dX4_withFirstAhead_12 rfl (fun hc => ?_) (fun hc => ?_)
  · rw [if_pos hc] at h
    refine z_iload v4 dX4_withFirstAhead_52 rfl ?_
    exact z_ireturn .int dX4_withFirstAhead_54 rfl rfl h
  · rw [if_neg hc] at h
    refine z_iload v5 dX4_withFirstAhead_15 rfl ?_
    refine z_iload_n v2 dX4_withFirstAhead_17 rfl rfl ?_
    refine z_ishr dX4_withFirstAhead_18 ?_
    refine z_iconst 1 dX4_withFirstAhead_19 rfl ?_
    refine z_iand dX4_withFirstAhead_20 ?_
    refine z_iconst 1 dX4_withFirstAhead_21 rfl ?_
    refine z_icmp_ne 46 dX4_withFirstAhead_22 rfl (fun hc => ?_) (fun hc => ?_)
    · rw [if_neg hc] at h
      exact h
    · rw [if_pos hc] at h
      refine z_iload v4 dX4_withFirstAhead_25 rfl ?_
      refine z_aload_n v0 dX4_withFirstAhead_27 rfl rfl ?_
      obtain ⟨r3, e, h⟩ := h
      refine zq_fR f_X4_9 dX4_withFirstAhead_28 e ?_
      refine z_iload v5 dX4_withFirstAhead_31 rfl ?_
      obtain ⟨x4, e, h⟩ := h
      refine zq_aI dX4_withFirstAhead_33 e ?_
      refine z_aload_n v0 dX4_withFirstAhead_34 rfl rfl ?_
      refine z_aload_n v1 dX4_withFirstAhead_35 rfl rfl ?_
      refine z_iload v5 dX4_withFirstAhead_36 rfl ?_
      refine z_iload_n v3 dX4_withFirstAhead_38 rfl rfl ?_
      refine zq_VI (N := MX4_waysWith) (As := [.ref v1, .int v5, .int v3]) m_X4_34 dX4_withFirstAhead_39 rfl rfl (Nat.le_of_ble_eq_true rfl) h (fun x6 w5 h => ?_)
      refine z_imul dX4_withFirstAhead_42 ?_
      refine z_iadd dX4_withFirstAhead_43 ?_
      refine z_istore (i := 4) dX4_withFirstAhead_44 (by decide) rfl ?_
      exact h
set_option maxRecDepth 100000 in
set_option maxHeartbeats 4000000 in
theorem bX4_withFirstAhead_46 {X : zX} {d kc ks : Nat} {w : zW} {Q : Option Value → zW → Prop} (v0 : Nat) (v1 : Nat) (v2 : Int32) (v3 : Int32) (v4 : Int32) (v5 : Int32)
    (h : zRn X d kc ks MX4_withFirstAhead 6 [some (.ref v0), some (.ref v1), some (.int v2), some (.int v3), some (.int v4), some (.int (v5 + 1))] [] w Q) :
    zRn X d kc ks MX4_withFirstAhead 46 [some (.ref v0), some (.ref v1), some (.int v2), some (.int v3), some (.int v4), some (.int v5)] [] w Q := by
  refine z_iinc (i := 5) v5 (v5 + 1) dX4_withFirstAhead_46 rfl rfl (by decide) rfl ?_
  refine z_goto 6 dX4_withFirstAhead_49 rfl ?_
  exact h
theorem eX4_withFirstAhead {X : zX} {d kc ks : Nat} {w : zW} {Q : Option Value → zW → Prop} (p0 : Nat) (p1 : Nat) (a2 : Int32) (a3 : Int32) (h : zRn X d kc ks MX4_withFirstAhead 0 [some (.ref p0), some (.ref p1), some (.int a2), some (.int a3), none, none] [] w Q) : zEv X d kc ks MX4_withFirstAhead [.ref p0, .ref p1, .int a2, .int a3] w Q :=
  zEv.of (by decide) (Nat.le_of_ble_eq_true rfl) (Or.inr (by simp [Value.category])) h
set_option maxRecDepth 100000 in
set_option maxHeartbeats 4000000 in
theorem bX4_withThingAt_0 {X : zX} {d kc ks : Nat} {w : zW} {Q : Option Value → zW → Prop} (p0 : Nat) (p1 : Nat) (a2 : Int32) (a3 : Int32)
    (h : zRn X d kc ks MX4_withThingAt 6 [some (.ref p0), some (.ref p1), some (.int a2), some (.int a3), some (.int 0), some (.int 0)] [] w Q) :
    zRn X d kc ks MX4_withThingAt 0 [some (.ref p0), some (.ref p1), some (.int a2), some (.int a3), none, none] [] w Q := by
  refine z_iconst 0 dX4_withThingAt_0 rfl ?_
  refine z_istore (i := 4) dX4_withThingAt_1 (by decide) rfl ?_
  refine z_iconst 0 dX4_withThingAt_3 rfl ?_
  refine z_istore (i := 5) dX4_withThingAt_4 (by decide) rfl ?_
  exact h
set_option maxRecDepth 100000 in
set_option maxHeartbeats 4000000 in
theorem bX4_withThingAt_6 {X : zX} {d kc ks : Nat} {w : zW} {Q : Option Value → zW → Prop} (v0 : Nat) (v1 : Nat) (v2 : Int32) (v3 : Int32) (v4 : Int32) (v5 : Int32)
    (h : zIs w v1 5 ∧ zCallI X d MX5_all [.ref v1] w (fun x2 w1 => if x2 ≤ v5 then (Q (some (.int v4)) w1) else (zCallI X d MJ6_bitCount_0f7a4 [.int v5] w1 (fun x4 w3 => if x4 = v3 then (∃ r5, zfR w3 v0 4 0 = some r5 ∧ (∃ x6, zaI w3 r5 v5 = some x6 ∧ (zIs w3 v0 4 ∧ zCallI X d MX4_waysWith [.ref v0, .ref v1, .int v5, .int v2] w3 (fun x8 w7 => zRn X d kc ks MX4_withThingAt 45 [some (.ref v0), some (.ref v1), some (.int v2), some (.int v3), some (.int (v4 + (x6 * x8))), some (.int v5)] [] w7 Q)))) else (zRn X d kc ks MX4_withThingAt 45 [some (.ref v0), some (.ref v1), some (.int v2), some (.int v3), some (.int v4), some (.int v5)] [] w3 Q))))) :
    zRn X d kc ks MX4_withThingAt 6 [some (.ref v0), some (.ref v1), some (.int v2), some (.int v3), some (.int v4), some (.int v5)] [] w Q := by
  refine z_iload v5 dX4_withThingAt_6 rfl ?_
  refine z_aload_n v1 dX4_withThingAt_8 rfl rfl ?_
  refine zq_VI (N := MX5_all) (As := []) m_X4_18 dX4_withThingAt_9 rfl rfl (Nat.le_of_ble_eq_true rfl) h (fun x2 w1 h => ?_)
  refine z_icmp_ge 51 dX4_withThingAt_12 rfl (fun hc => ?_) (fun hc => ?_)
  · rw [if_pos hc] at h
    refine z_iload v4 dX4_withThingAt_51 rfl ?_
    exact z_ireturn .int dX4_withThingAt_53 rfl rfl h
  · rw [if_neg hc] at h
    refine z_iload v5 dX4_withThingAt_15 rfl ?_
    refine zq_SI (N := MJ6_bitCount_0f7a4) (As := [.int v5]) m_X4_48 dX4_withThingAt_17 rfl rfl (Nat.le_of_ble_eq_true rfl) h (fun x4 w3 h => ?_)
    refine z_iload_n v3 dX4_withThingAt_20 rfl rfl ?_
    refine z_icmp_ne 45 dX4_withThingAt_21 rfl (fun hc => ?_) (fun hc => ?_)
    · rw [if_neg hc] at h
      exact h
    · rw [if_pos hc] at h
      refine z_iload v4 dX4_withThingAt_24 rfl ?_
      refine z_aload_n v0 dX4_withThingAt_26 rfl rfl ?_
      obtain ⟨r5, e, h⟩ := h
      refine zq_fR f_X4_9 dX4_withThingAt_27 e ?_
      refine z_iload v5 dX4_withThingAt_30 rfl ?_
      obtain ⟨x6, e, h⟩ := h
      refine zq_aI dX4_withThingAt_32 e ?_
      refine z_aload_n v0 dX4_withThingAt_33 rfl rfl ?_
      refine z_aload_n v1 dX4_withThingAt_34 rfl rfl ?_
      refine z_iload v5 dX4_withThingAt_35 rfl ?_
      refine z_iload_n v2 dX4_withThingAt_37 rfl rfl ?_
      refine zq_VI (N := MX4_waysWith) (As := [.ref v1, .int v5, .int v2]) m_X4_34 dX4_withThingAt_38 rfl rfl (Nat.le_of_ble_eq_true rfl) h (fun x8 w7 h => ?_)
      refine z_imul dX4_withThingAt_41 ?_
      refine z_iadd dX4_withThingAt_42 ?_
      refine z_istore (i := 4) dX4_withThingAt_43 (by decide) rfl ?_
      exact h
set_option maxRecDepth 100000 in
set_option maxHeartbeats 4000000 in
theorem bX4_withThingAt_45 {X : zX} {d kc ks : Nat} {w : zW} {Q : Option Value → zW → Prop} (v0 : Nat) (v1 : Nat) (v2 : Int32) (v3 : Int32) (v4 : Int32) (v5 : Int32)
    (h : zRn X d kc ks MX4_withThingAt 6 [some (.ref v0), some (.ref v1), some (.int v2), some (.int v3), some (.int v4), some (.int (v5 + 1))] [] w Q) :
    zRn X d kc ks MX4_withThingAt 45 [some (.ref v0), some (.ref v1), some (.int v2), some (.int v3), some (.int v4), some (.int v5)] [] w Q := by
  refine z_iinc (i := 5) v5 (v5 + 1) dX4_withThingAt_45 rfl rfl (by decide) rfl ?_
  refine z_goto 6 dX4_withThingAt_48 rfl ?_
  exact h
theorem eX4_withThingAt {X : zX} {d kc ks : Nat} {w : zW} {Q : Option Value → zW → Prop} (p0 : Nat) (p1 : Nat) (a2 : Int32) (a3 : Int32) (h : zRn X d kc ks MX4_withThingAt 0 [some (.ref p0), some (.ref p1), some (.int a2), some (.int a3), none, none] [] w Q) : zEv X d kc ks MX4_withThingAt [.ref p0, .ref p1, .int a2, .int a3] w Q :=
  zEv.of (by decide) (Nat.le_of_ble_eq_true rfl) (Or.inr (by simp [Value.category])) h
set_option maxRecDepth 100000 in
set_option maxHeartbeats 4000000 in
theorem bX4_placeSum_0 {X : zX} {d kc ks : Nat} {w : zW} {Q : Option Value → zW → Prop} (p0 : Nat) (p1 : Nat) (a2 : Int32)
    (h : zRn X d kc ks MX4_placeSum 5 [some (.ref p0), some (.ref p1), some (.int a2), some (.int 0), some (.int 1)] [] w Q) :
    zRn X d kc ks MX4_placeSum 0 [some (.ref p0), some (.ref p1), some (.int a2), none, none] [] w Q := by
  refine z_iconst 0 dX4_placeSum_0 rfl ?_
  refine z_istore_n (i := 3) dX4_placeSum_1 rfl (by decide) rfl ?_
  refine z_iconst 1 dX4_placeSum_2 rfl ?_
  refine z_istore (i := 4) dX4_placeSum_3 (by decide) rfl ?_
  exact h
set_option maxRecDepth 100000 in
set_option maxHeartbeats 4000000 in
theorem bX4_placeSum_5 {X : zX} {d kc ks : Nat} {w : zW} {Q : Option Value → zW → Prop} (v0 : Nat) (v1 : Nat) (v2 : Int32) (v3 : Int32) (v4 : Int32)
    (h : zIs w v1 5 ∧ zCallI X d MX5_size [.ref v1] w (fun x2 w1 => if x2 ≤ v4 then (Q (some (.int v3)) w1) else (zIs w1 v0 4 ∧ zCallI X d MX4_withThingAt [.ref v0, .ref v1, .int v2, .int v4] w1 (fun x4 w3 => zRn X d kc ks MX4_placeSum 5 [some (.ref v0), some (.ref v1), some (.int v2), some (.int (v3 + (v4 * x4))), some (.int (v4 + 1))] [] w3 Q)))) :
    zRn X d kc ks MX4_placeSum 5 [some (.ref v0), some (.ref v1), some (.int v2), some (.int v3), some (.int v4)] [] w Q := by
  refine z_iload v4 dX4_placeSum_5 rfl ?_
  refine z_aload_n v1 dX4_placeSum_7 rfl rfl ?_
  refine zq_VI (N := MX5_size) (As := []) m_X4_24 dX4_placeSum_8 rfl rfl (Nat.le_of_ble_eq_true rfl) h (fun x2 w1 h => ?_)
  refine z_icmp_ge 34 dX4_placeSum_11 rfl (fun hc => ?_) (fun hc => ?_)
  · rw [if_pos hc] at h
    refine z_iload_n v3 dX4_placeSum_34 rfl rfl ?_
    exact z_ireturn .int dX4_placeSum_35 rfl rfl h
  · rw [if_neg hc] at h
    refine z_iload_n v3 dX4_placeSum_14 rfl rfl ?_
    refine z_iload v4 dX4_placeSum_15 rfl ?_
    refine z_aload_n v0 dX4_placeSum_17 rfl rfl ?_
    refine z_aload_n v1 dX4_placeSum_18 rfl rfl ?_
    refine z_iload_n v2 dX4_placeSum_19 rfl rfl ?_
    refine z_iload v4 dX4_placeSum_20 rfl ?_
    refine zq_VI (N := MX4_withThingAt) (As := [.ref v1, .int v2, .int v4]) m_X4_54 dX4_placeSum_22 rfl rfl (Nat.le_of_ble_eq_true rfl) h (fun x4 w3 h => ?_)
    refine z_imul dX4_placeSum_25 ?_
    refine z_iadd dX4_placeSum_26 ?_
    refine z_istore_n (i := 3) dX4_placeSum_27 rfl (by decide) rfl ?_
    refine z_iinc (i := 4) v4 (v4 + 1) dX4_placeSum_28 rfl rfl (by decide) rfl ?_
    refine z_goto 5 dX4_placeSum_31 rfl ?_
    exact h
theorem eX4_placeSum {X : zX} {d kc ks : Nat} {w : zW} {Q : Option Value → zW → Prop} (p0 : Nat) (p1 : Nat) (a2 : Int32) (h : zRn X d kc ks MX4_placeSum 0 [some (.ref p0), some (.ref p1), some (.int a2), none, none] [] w Q) : zEv X d kc ks MX4_placeSum [.ref p0, .ref p1, .int a2] w Q :=
  zEv.of (by decide) (Nat.le_of_ble_eq_true rfl) (Or.inr (by simp [Value.category])) h
set_option maxRecDepth 100000 in
set_option maxHeartbeats 4000000 in
theorem bX4_bestBalanced_0 {X : zX} {d kc ks : Nat} {w : zW} {Q : Option Value → zW → Prop} (p0 : Nat) (p1 : Nat)
    (h : zRn X d kc ks MX4_bestBalanced 7 [some (.ref p0), some (.ref p1), some (.int (-1)), some (.int 0), some (.int 0), none, none] [] w Q) :
    zRn X d kc ks MX4_bestBalanced 0 [some (.ref p0), some (.ref p1), none, none, none, none, none] [] w Q := by
  refine z_iconst (-1) dX4_bestBalanced_0 rfl ?_
  refine z_istore_n (i := 2) dX4_bestBalanced_1 rfl (by decide) rfl ?_
  refine z_iconst 0 dX4_bestBalanced_2 rfl ?_
  refine z_istore_n (i := 3) dX4_bestBalanced_3 rfl (by decide) rfl ?_
  refine z_iconst 0 dX4_bestBalanced_4 rfl ?_
  refine z_istore (i := 4) dX4_bestBalanced_5 (by decide) rfl ?_
  exact h
set_option maxRecDepth 100000 in
set_option maxHeartbeats 4000000 in
theorem bX4_bestBalanced_7 {X : zX} {d kc ks : Nat} {w : zW} {Q : Option Value → zW → Prop} (v0 : Nat) (v1 : Nat) (v2 : Int32) (v3 : Int32) (v4 : Int32)
    (h : zIs w v1 5 ∧ zCallI X d MX5_size [.ref v1] w (fun x2 w1 => if x2 ≤ v4 then (Q (some (.int v2)) w1) else (zRn X d kc ks MX4_bestBalanced 22 [some (.ref v0), some (.ref v1), some (.int v2), some (.int v3), some (.int v4), some (.int (v4 + 1)), none] [] w1 Q))) :
    zRn X d kc ks MX4_bestBalanced 7 [some (.ref v0), some (.ref v1), some (.int v2), some (.int v3), some (.int v4), none, none] [] w Q := by
  refine z_iload v4 dX4_bestBalanced_7 rfl ?_
  refine z_aload_n v1 dX4_bestBalanced_9 rfl rfl ?_
  refine zq_VI (N := MX5_size) (As := []) m_X4_24 dX4_bestBalanced_10 rfl rfl (Nat.le_of_ble_eq_true rfl) h (fun x2 w1 h => ?_)
  refine z_icmp_ge 102 dX4_bestBalanced_13 rfl (fun hc => ?_) (fun hc => ?_)
  · rw [if_pos hc] at h
    refine z_iload_n v2 dX4_bestBalanced_102 rfl rfl ?_
    exact z_ireturn .int dX4_bestBalanced_103 rfl rfl h
  · rw [if_neg hc] at h
    refine z_iload v4 dX4_bestBalanced_16 rfl ?_
    refine z_iconst 1 dX4_bestBalanced_18 rfl ?_
    refine z_iadd dX4_bestBalanced_19 ?_
    refine z_istore (i := 5) dX4_bestBalanced_20 (by decide) rfl ?_
    exact h
set_option maxRecDepth 100000 in
set_option maxHeartbeats 4000000 in
theorem bX4_bestBalanced_22 {X : zX} {d kc ks : Nat} {w : zW} {Q : Option Value → zW → Prop} (v0 : Nat) (v1 : Nat) (v2 : Int32) (v3 : Int32) (v4 : Int32) (v5 : Int32)
    (h : zIs w v1 5 ∧ zCallI X d MX5_size [.ref v1] w (fun x2 w1 => if x2 ≤ v5 then (zRn X d kc ks MX4_bestBalanced 7 [some (.ref v0), some (.ref v1), some (.int v2), some (.int v3), some (.int (v4 + 1)), none, none] [] w1 Q) else (zIs w1 v1 5 ∧ zCallI X d MX5_freeOf [.ref v1, .int v4] w1 (fun x4 w3 => if ((x4 >>> (v5 &&& 31)) &&& 1) = 1 then (zIs w3 v0 4 ∧ zCallI X d MX4_withFirstAhead [.ref v0, .ref v1, .int v4, .int v5] w3 (fun x6 w5 => zIs w5 v0 4 ∧ zCallI X d MX4_total [.ref v0] w5 (fun x8 w7 => 0 < d ∧ (if v2 = (-1) then (zRn X d kc ks MX4_bestBalanced 78 [some (.ref v0), some (.ref v1), none, none, some (.int v4), some (.int v5), some (.int (if (0 : Int32) ≤ (((2 : Int32) * x6) - x8) then (((2 : Int32) * x6) - x8) else 0 - (((2 : Int32) * x6) - x8)))] [] w7 Q) else (if v3 ≤ (if (0 : Int32) ≤ (((2 : Int32) * x6) - x8) then (((2 : Int32) * x6) - x8) else 0 - (((2 : Int32) * x6) - x8)) then (zRn X d kc ks MX4_bestBalanced 90 [some (.ref v0), some (.ref v1), some (.int v2), some (.int v3), some (.int v4), some (.int v5), none] [] w7 Q) else (zRn X d kc ks MX4_bestBalanced 78 [some (.ref v0), some (.ref v1), none, none, some (.int v4), some (.int v5), some (.int (if (0 : Int32) ≤ (((2 : Int32) * x6) - x8) then (((2 : Int32) * x6) - x8) else 0 - (((2 : Int32) * x6) - x8)))] [] w7 Q)))))) else (zRn X d kc ks MX4_bestBalanced 90 [some (.ref v0), some (.ref v1), some (.int v2), some (.int v3), some (.int v4), some (.int v5), none] [] w3 Q))))) :
    zRn X d kc ks MX4_bestBalanced 22 [some (.ref v0), some (.ref v1), some (.int v2), some (.int v3), some (.int v4), some (.int v5), none] [] w Q := by
  refine z_iload v5 dX4_bestBalanced_22 rfl ?_
  refine z_aload_n v1 dX4_bestBalanced_24 rfl rfl ?_
  refine zq_VI (N := MX5_size) (As := []) m_X4_24 dX4_bestBalanced_25 rfl rfl (Nat.le_of_ble_eq_true rfl) h (fun x2 w1 h => ?_)
  refine z_icmp_ge 96 dX4_bestBalanced_28 rfl (fun hc => ?_) (fun hc => ?_)
  · rw [if_pos hc] at h
    refine z_iinc (i := 4) v4 (v4 + 1) dX4_bestBalanced_96 rfl rfl (by decide) rfl ?_
    refine z_goto 7 dX4_bestBalanced_99 rfl ?_
    exact zRn.weak h (zLe_of [true, true, true, true, true, false, true] (And.intro rfl (And.intro rfl (And.intro rfl (And.intro rfl (And.intro rfl (And.intro rfl (And.intro rfl (trivial)))))))))
  · rw [if_neg hc] at h
    refine z_aload_n v1 dX4_bestBalanced_31 rfl rfl ?_
    refine z_iload v4 dX4_bestBalanced_32 rfl ?_
    refine zq_VI (N := MX5_freeOf) (As := [.int v4]) m_X4_57 dX4_bestBalanced_34 rfl rfl (Nat.le_of_ble_eq_true rfl) h (fun x4 w3 h => ?_)
    refine z_iload v5 dX4_bestBalanced_37 rfl ?_
    refine z_ishr dX4_bestBalanced_39 ?_
    refine z_iconst 1 dX4_bestBalanced_40 rfl ?_
    refine z_iand dX4_bestBalanced_41 ?_
    refine z_iconst 1 dX4_bestBalanced_42 rfl ?_
    refine z_icmp_ne 90 dX4_bestBalanced_43 rfl (fun hc => ?_) (fun hc => ?_)
    · rw [if_neg hc] at h
      exact h
    · rw [if_pos hc] at h
      refine z_iconst 2 dX4_bestBalanced_46 rfl ?_
      refine z_aload_n v0 dX4_bestBalanced_47 rfl rfl ?_
      refine z_aload_n v1 dX4_bestBalanced_48 rfl rfl ?_
      refine z_iload v4 dX4_bestBalanced_49 rfl ?_
      refine z_iload v5 dX4_bestBalanced_51 rfl ?_
      refine zq_VI (N := MX4_withFirstAhead) (As := [.ref v1, .int v4, .int v5]) m_X4_60 dX4_bestBalanced_53 rfl rfl (Nat.le_of_ble_eq_true rfl) h (fun x6 w5 h => ?_)
      refine z_imul dX4_bestBalanced_56 ?_
      refine z_aload_n v0 dX4_bestBalanced_57 rfl rfl ?_
      refine zq_VI (N := MX4_total) (As := []) m_X4_31 dX4_bestBalanced_58 rfl rfl (Nat.le_of_ble_eq_true rfl) h (fun x8 w7 h => ?_)
      refine z_isub dX4_bestBalanced_61 ?_
      refine z_mabs g_889 g_890 g_106 g_891 dX4_bestBalanced_62 (Nat.le_of_ble_eq_true rfl) h.1 ?_
      have h := h.2
      refine z_istore (i := 6) dX4_bestBalanced_65 (by decide) rfl ?_
      refine z_iload_n v2 dX4_bestBalanced_67 rfl rfl ?_
      refine z_iconst (-1) dX4_bestBalanced_68 rfl ?_
      refine z_icmp_eq 78 dX4_bestBalanced_69 rfl (fun hc => ?_) (fun hc => ?_)
      · rw [if_pos hc] at h
        exact zRn.weak h (zLe_of [true, true, false, false, true, true, true] (And.intro rfl (And.intro rfl (And.intro rfl (And.intro rfl (And.intro rfl (And.intro rfl (And.intro rfl (trivial)))))))))
      · rw [if_neg hc] at h
        refine z_iload (if (0 : Int32) ≤ (((2 : Int32) * x6) - x8) then (((2 : Int32) * x6) - x8) else 0 - (((2 : Int32) * x6) - x8)) dX4_bestBalanced_72 rfl ?_
        refine z_iload_n v3 dX4_bestBalanced_74 rfl rfl ?_
        refine z_icmp_ge 90 dX4_bestBalanced_75 rfl (fun hc => ?_) (fun hc => ?_)
        · rw [if_pos hc] at h
          exact zRn.weak h (zLe_of [true, true, true, true, true, true, false] (And.intro rfl (And.intro rfl (And.intro rfl (And.intro rfl (And.intro rfl (And.intro rfl (And.intro rfl (trivial)))))))))
        · rw [if_neg hc] at h
          exact zRn.weak h (zLe_of [true, true, false, false, true, true, true] (And.intro rfl (And.intro rfl (And.intro rfl (And.intro rfl (And.intro rfl (And.intro rfl (And.intro rfl (trivial)))))))))
set_option maxRecDepth 100000 in
set_option maxHeartbeats 4000000 in
theorem bX4_bestBalanced_78 {X : zX} {d kc ks : Nat} {w : zW} {Q : Option Value → zW → Prop} (v0 : Nat) (v1 : Nat) (v4 : Int32) (v5 : Int32) (v6 : Int32)
    (h : zRn X d kc ks MX4_bestBalanced 90 [some (.ref v0), some (.ref v1), some (.int (((10 : Int32) * v4) + v5)), some (.int v6), some (.int v4), some (.int v5), none] [] w Q) :
    zRn X d kc ks MX4_bestBalanced 78 [some (.ref v0), some (.ref v1), none, none, some (.int v4), some (.int v5), some (.int v6)] [] w Q := by
  refine z_bipush 10 dX4_bestBalanced_78 rfl ?_
  refine z_iload v4 dX4_bestBalanced_80 rfl ?_
  refine z_imul dX4_bestBalanced_82 ?_
  refine z_iload v5 dX4_bestBalanced_83 rfl ?_
  refine z_iadd dX4_bestBalanced_85 ?_
  refine z_istore_n (i := 2) dX4_bestBalanced_86 rfl (by decide) rfl ?_
  refine z_iload v6 dX4_bestBalanced_87 rfl ?_
  refine z_istore_n (i := 3) dX4_bestBalanced_89 rfl (by decide) rfl ?_
  exact zRn.weak h (zLe_of [true, true, true, true, true, true, false] (And.intro rfl (And.intro rfl (And.intro rfl (And.intro rfl (And.intro rfl (And.intro rfl (And.intro rfl (trivial)))))))))
set_option maxRecDepth 100000 in
set_option maxHeartbeats 4000000 in
theorem bX4_bestBalanced_90 {X : zX} {d kc ks : Nat} {w : zW} {Q : Option Value → zW → Prop} (v0 : Nat) (v1 : Nat) (v2 : Int32) (v3 : Int32) (v4 : Int32) (v5 : Int32)
    (h : zRn X d kc ks MX4_bestBalanced 22 [some (.ref v0), some (.ref v1), some (.int v2), some (.int v3), some (.int v4), some (.int (v5 + 1)), none] [] w Q) :
    zRn X d kc ks MX4_bestBalanced 90 [some (.ref v0), some (.ref v1), some (.int v2), some (.int v3), some (.int v4), some (.int v5), none] [] w Q := by
  refine z_iinc (i := 5) v5 (v5 + 1) dX4_bestBalanced_90 rfl rfl (by decide) rfl ?_
  refine z_goto 22 dX4_bestBalanced_93 rfl ?_
  exact h
theorem eX4_bestBalanced {X : zX} {d kc ks : Nat} {w : zW} {Q : Option Value → zW → Prop} (p0 : Nat) (p1 : Nat) (h : zRn X d kc ks MX4_bestBalanced 0 [some (.ref p0), some (.ref p1), none, none, none, none, none] [] w Q) : zEv X d kc ks MX4_bestBalanced [.ref p0, .ref p1] w Q :=
  zEv.of (by decide) (Nat.le_of_ble_eq_true rfl) (Or.inr (by simp [Value.category])) h
