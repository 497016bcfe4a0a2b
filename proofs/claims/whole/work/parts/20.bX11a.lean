set_option maxRecDepth 100000 in
set_option maxHeartbeats 4000000 in
theorem bX11_init_0 {X : zX} {d kc ks : Nat} {w : zW} {Q : Option Value → zW → Prop} (p0 : Nat)
    (h : 0 < d ∧ ((3 = nI 3 ∧ 3 ≤ 100000 ∧ w.length < zBig ∧ 1 ≤ kc ∧ 3 ≤ ks) ∧ (∃ w2, zsF (w ++ [zR 3 (fun _ => none)]) p0 10 0 (.ref w.length) = some w2 ∧ (zRn X d (kc - 1) (ks - 3) MX11_init 14 [some (.ref p0), some (.int 0)] [] w2 Q)))) :
    zRn X d kc ks MX11_init 0 [some (.ref p0), none] [] w Q := by
  refine z_aload_n p0 dX11_init_0 rfl rfl ?_
  refine z_objInit g_126 g_127 g_128 dX11_init_1 (Nat.le_of_ble_eq_true rfl) h.1 ?_
  have h := h.2
  refine z_aload_n p0 dX11_init_4 rfl rfl ?_
  refine z_iconst 3 dX11_init_5 rfl ?_
  refine zq_anew (N := 3) g_129 dX11_init_6 h.1 ?_
  have h := h.2
  obtain ⟨w2, e, h⟩ := h
  refine zq_sFf f_X11_11 rfl dX11_init_9 (fun _ => rfl) (fun _ => rfl) e ?_
  refine z_iconst 0 dX11_init_12 rfl ?_
  refine z_istore_n (i := 1) dX11_init_13 rfl (by decide) rfl ?_
  exact h
set_option maxRecDepth 100000 in
set_option maxHeartbeats 4000000 in
theorem bX11_init_14 {X : zX} {d kc ks : Nat} {w : zW} {Q : Option Value → zW → Prop} (v0 : Nat) (v1 : Int32)
    (h : if 3 ≤ v1 then ((w.length < zBig ∧ 1 ≤ kc ∧ 4 ≤ ks) ∧ (zCallC X d (kc - 1) (ks - 4) MX5_init [.ref w.length] (w ++ [zO 5 [.null, .null, .null, .int 0]]) (fun k2 s3 w1 => ∃ w4, zsF w1 v0 10 1 (.ref w.length) = some w4 ∧ ((w4.length < zBig ∧ 1 ≤ k2 ∧ 4 ≤ s3) ∧ (zCallC X d (k2 - 1) (s3 - 4) MX6_init [.ref w4.length] (w4 ++ [zO 6 [.null, .null, .int 0, .int 0]]) (fun k6 s7 w5 => ∃ w8, zsF w5 v0 10 2 (.ref w4.length) = some w8 ∧ ((w8.length < zBig ∧ 1 ≤ k6 ∧ 2 ≤ s7) ∧ (zCallC X d (k6 - 1) (s7 - 2) MX0_init [.ref w8.length, .int 400] (w8 ++ [zO 0 [.null, .int 0]]) (fun k10 s11 w9 => ∃ w12, zsF w9 v0 10 3 (.ref w8.length) = some w12 ∧ ((w12.length < zBig ∧ 1 ≤ k10 ∧ 2 ≤ s11) ∧ (zCallC X d (k10 - 1) (s11 - 2) MX0_init [.ref w12.length, .int 160] (w12 ++ [zO 0 [.null, .int 0]]) (fun k14 s15 w13 => ∃ w16, zsF w13 v0 10 4 (.ref w12.length) = some w16 ∧ ((w16.length < zBig ∧ 1 ≤ k14 ∧ 6 ≤ s15) ∧ (∃ r17, zfR (w16 ++ [zO 7 [.null, .int 0, .int 0, .int 0, .int 0, .int 0]]) v0 10 3 = some r17 ∧ (zCallC X d (k14 - 1) (s15 - 6) MX7_init [.ref w16.length, .ref r17] (w16 ++ [zO 7 [.null, .int 0, .int 0, .int 0, .int 0, .int 0]]) (fun k19 s20 w18 => ∃ w21, zsF w18 v0 10 5 (.ref w16.length) = some w21 ∧ ((w21.length < zBig ∧ 1 ≤ k19 ∧ 3 ≤ s20) ∧ (zCallC X d (k19 - 1) (s20 - 3) MX1_init [.ref w21.length] (w21 ++ [zO 1 [.null, .null, .null]]) (fun k23 s24 w22 => ∃ w25, zsF w22 v0 10 6 (.ref w21.length) = some w25 ∧ ((w25.length < zBig ∧ 1 ≤ k23 ∧ 2 ≤ s24) ∧ (zCallC X d (k23 - 1) (s24 - 2) MX4_init [.ref w25.length] (w25 ++ [zO 4 [.null, .null]]) (fun k27 s28 w26 => ∃ w29, zsF w26 v0 10 7 (.ref w25.length) = some w29 ∧ ((w29.length < zBig ∧ 1 ≤ k27 ∧ 1 ≤ s28) ∧ (zCallC X d (k27 - 1) (s28 - 1) MX2_init [.ref w29.length] (w29 ++ [zO 2 [.null]]) (fun k31 s32 w30 => ∃ w33, zsF w30 v0 10 8 (.ref w29.length) = some w33 ∧ ((w33.length < zBig ∧ 1 ≤ k31 ∧ 7 ≤ s32) ∧ (zCallC X d (k31 - 1) (s32 - 7) MX9_init [.ref w33.length] (w33 ++ [zO 9 [.null, .null, .null, .null, .null, .null, .int 0]]) (fun k35 s36 w34 => ∃ w37, zsF w34 v0 10 9 (.ref w33.length) = some w37 ∧ ((w37.length < zBig ∧ 1 ≤ k35 ∧ 1 ≤ s36) ∧ (zCallC X d (k35 - 1) (s36 - 1) MX3_init [.ref w37.length] (w37 ++ [zO 3 [.null]]) (fun k39 s40 w38 => ∃ w41, zsF w38 v0 10 10 (.ref w37.length) = some w41 ∧ (Q none w41)))))))))))))))))))))))))))))))) else (∃ r42, zfR w v0 10 0 = some r42 ∧ ((w.length < zBig ∧ 1 ≤ kc ∧ 4 ≤ ks) ∧ (zCallC X d (kc - 1) (ks - 4) MX5_init [.ref w.length] (w ++ [zO 5 [.null, .null, .null, .int 0]]) (fun k44 s45 w43 => ∃ w46, zsR w43 r42 v1 w.length = some w46 ∧ (zRn X d k44 s45 MX11_init 14 [some (.ref v0), some (.int (v1 + 1))] [] w46 Q)))))) :
    zRn X d kc ks MX11_init 14 [some (.ref v0), some (.int v1)] [] w Q := by
  refine z_iload_n v1 dX11_init_14 rfl rfl ?_
  refine z_iconst 3 dX11_init_15 rfl ?_
  refine z_icmp_ge 38 dX11_init_16 rfl (fun hc => ?_) (fun hc => ?_)
  · rw [if_pos hc] at h
    refine z_aload_n v0 dX11_init_38 rfl rfl ?_
    refine zq_new n_X11_9 dX11_init_39 h.1 ?_
    have h := h.2
    refine z_dup dX11_init_42 rfl ?_
    refine zq_IC (N := MX5_init) (As := []) m_X11_15 dX11_init_43 rfl rfl (Nat.le_of_ble_eq_true rfl) h (fun k2 s3 w1 h => ?_)
    obtain ⟨w4, e, h⟩ := h
    refine zq_sFf f_X11_16 rfl dX11_init_46 (fun _ => rfl) (fun _ => rfl) e ?_
    refine z_aload_n v0 dX11_init_49 rfl rfl ?_
    refine zq_new n_X11_20 dX11_init_50 h.1 ?_
    have h := h.2
    refine z_dup dX11_init_53 rfl ?_
    refine zq_IC (N := MX6_init) (As := []) m_X11_22 dX11_init_54 rfl rfl (Nat.le_of_ble_eq_true rfl) h (fun k6 s7 w5 h => ?_)
    obtain ⟨w8, e, h⟩ := h
    refine zq_sFf f_X11_23 rfl dX11_init_57 (fun _ => rfl) (fun _ => rfl) e ?_
    refine z_aload_n v0 dX11_init_60 rfl rfl ?_
    refine zq_new n_X11_27 dX11_init_61 h.1 ?_
    have h := h.2
    refine z_dup dX11_init_64 rfl ?_
    refine z_sipush 400 dX11_init_65 rfl ?_
    refine zq_IC (N := MX0_init) (As := [.int 400]) m_X11_29 dX11_init_68 rfl rfl (Nat.le_of_ble_eq_true rfl) h (fun k10 s11 w9 h => ?_)
    obtain ⟨w12, e, h⟩ := h
    refine zq_sFf f_X11_32 rfl dX11_init_71 (fun _ => rfl) (fun _ => rfl) e ?_
    refine z_aload_n v0 dX11_init_74 rfl rfl ?_
    refine zq_new n_X11_27 dX11_init_75 h.1 ?_
    have h := h.2
    refine z_dup dX11_init_78 rfl ?_
    refine z_sipush 160 dX11_init_79 rfl ?_
    refine zq_IC (N := MX0_init) (As := [.int 160]) m_X11_29 dX11_init_82 rfl rfl (Nat.le_of_ble_eq_true rfl) h (fun k14 s15 w13 h => ?_)
    obtain ⟨w16, e, h⟩ := h
    refine zq_sFf f_X11_36 rfl dX11_init_85 (fun _ => rfl) (fun _ => rfl) e ?_
    refine z_aload_n v0 dX11_init_88 rfl rfl ?_
    refine zq_new n_X11_39 dX11_init_89 h.1 ?_
    have h := h.2
    refine z_dup dX11_init_92 rfl ?_
    refine z_aload_n v0 dX11_init_93 rfl rfl ?_
    obtain ⟨r17, e, h⟩ := h
    refine zq_fR f_X11_32 dX11_init_94 e ?_
    refine zq_IC (N := MX7_init) (As := [.ref r17]) m_X11_41 dX11_init_97 rfl rfl (Nat.le_of_ble_eq_true rfl) h (fun k19 s20 w18 h => ?_)
    obtain ⟨w21, e, h⟩ := h
    refine zq_sFf f_X11_44 rfl dX11_init_100 (fun _ => rfl) (fun _ => rfl) e ?_
    refine z_aload_n v0 dX11_init_103 rfl rfl ?_
    refine zq_new n_X11_48 dX11_init_104 h.1 ?_
    have h := h.2
    refine z_dup dX11_init_107 rfl ?_
    refine zq_IC (N := MX1_init) (As := []) m_X11_50 dX11_init_108 rfl rfl (Nat.le_of_ble_eq_true rfl) h (fun k23 s24 w22 h => ?_)
    obtain ⟨w25, e, h⟩ := h
    refine zq_sFf f_X11_51 rfl dX11_init_111 (fun _ => rfl) (fun _ => rfl) e ?_
    refine z_aload_n v0 dX11_init_114 rfl rfl ?_
    refine zq_new n_X11_55 dX11_init_115 h.1 ?_
    have h := h.2
    refine z_dup dX11_init_118 rfl ?_
    refine zq_IC (N := MX4_init) (As := []) m_X11_57 dX11_init_119 rfl rfl (Nat.le_of_ble_eq_true rfl) h (fun k27 s28 w26 h => ?_)
    obtain ⟨w29, e, h⟩ := h
    refine zq_sFf f_X11_58 rfl dX11_init_122 (fun _ => rfl) (fun _ => rfl) e ?_
    refine z_aload_n v0 dX11_init_125 rfl rfl ?_
    refine zq_new n_X11_62 dX11_init_126 h.1 ?_
    have h := h.2
    refine z_dup dX11_init_129 rfl ?_
    refine zq_IC (N := MX2_init) (As := []) m_X11_64 dX11_init_130 rfl rfl (Nat.le_of_ble_eq_true rfl) h (fun k31 s32 w30 h => ?_)
    obtain ⟨w33, e, h⟩ := h
    refine zq_sFf f_X11_65 rfl dX11_init_133 (fun _ => rfl) (fun _ => rfl) e ?_
    refine z_aload_n v0 dX11_init_136 rfl rfl ?_
    refine zq_new n_X11_69 dX11_init_137 h.1 ?_
    have h := h.2
    refine z_dup dX11_init_140 rfl ?_
    refine zq_IC (N := MX9_init) (As := []) m_X11_71 dX11_init_141 rfl rfl (Nat.le_of_ble_eq_true rfl) h (fun k35 s36 w34 h => ?_)
    obtain ⟨w37, e, h⟩ := h
    refine zq_sFf f_X11_72 rfl dX11_init_144 (fun _ => rfl) (fun _ => rfl) e ?_
    refine z_aload_n v0 dX11_init_147 rfl rfl ?_
    refine zq_new n_X11_76 dX11_init_148 h.1 ?_
    have h := h.2
    refine z_dup dX11_init_151 rfl ?_
    refine zq_IC (N := MX3_init) (As := []) m_X11_78 dX11_init_152 rfl rfl (Nat.le_of_ble_eq_true rfl) h (fun k39 s40 w38 h => ?_)
    obtain ⟨w41, e, h⟩ := h
    refine zq_sFf f_X11_79 rfl dX11_init_155 (fun _ => rfl) (fun _ => rfl) e ?_
    exact z_vreturn dX11_init_158 rfl h
  · rw [if_neg hc] at h
    refine z_aload_n v0 dX11_init_19 rfl rfl ?_
    obtain ⟨r42, e, h⟩ := h
    refine zq_fR f_X11_11 dX11_init_20 e ?_
    refine z_iload_n v1 dX11_init_23 rfl rfl ?_
    refine zq_new n_X11_9 dX11_init_24 h.1 ?_
    have h := h.2
    refine z_dup dX11_init_27 rfl ?_
    refine zq_IC (N := MX5_init) (As := []) m_X11_15 dX11_init_28 rfl rfl (Nat.le_of_ble_eq_true rfl) h (fun k44 s45 w43 h => ?_)
    obtain ⟨w46, e, h⟩ := h
    refine zq_sR dX11_init_31 e ?_
    refine z_iinc (i := 1) v1 (v1 + 1) dX11_init_32 rfl rfl (by decide) rfl ?_
    refine z_goto 14 dX11_init_35 rfl ?_
    exact h
theorem eX11_init {X : zX} {d kc ks : Nat} {w : zW} {Q : Option Value → zW → Prop} (p0 : Nat) (h : zRn X d kc ks MX11_init 0 [some (.ref p0), none] [] w Q) : zEv X d kc ks MX11_init [.ref p0] w Q :=
  zEv.of (by decide) (Nat.le_of_ble_eq_true rfl) (Or.inr (by simp [Value.category])) h
set_option maxRecDepth 100000 in
set_option maxHeartbeats 4000000 in
theorem bX11_feed_0 {X : zX} {d kc ks : Nat} {w : zW} {Q : Option Value → zW → Prop} (p0 : Nat) (a1 : Int32) (a2 : Int32) (a3 : Int32) (a4 : Int32) (a5 : Int32)
    (h : ∃ r1, zfR w p0 10 3 = some r1 ∧ (zIs w r1 0 ∧ zCallI X d MX0_size [.ref r1] w (fun x3 w2 => if (x3 + 20) ≤ 400 then (∃ r4, zfR w2 p0 10 3 = some r4 ∧ (zIs w2 r4 0 ∧ zCallV X d MX0_putFour [.ref r4, .int a1] w2 (fun w5 => ∃ r6, zfR w5 p0 10 3 = some r6 ∧ (zIs w5 r6 0 ∧ zCallV X d MX0_putFour [.ref r6, .int a2] w5 (fun w7 => ∃ r8, zfR w7 p0 10 3 = some r8 ∧ (zIs w7 r8 0 ∧ zCallV X d MX0_putFour [.ref r8, .int a3] w7 (fun w9 => ∃ r10, zfR w9 p0 10 3 = some r10 ∧ (zIs w9 r10 0 ∧ zCallV X d MX0_putFour [.ref r10, .int a4] w9 (fun w11 => ∃ r12, zfR w11 p0 10 3 = some r12 ∧ (zIs w11 r12 0 ∧ zCallV X d MX0_putFour [.ref r12, .int a5] w11 (fun w13 => ∃ r14, zfR w13 p0 10 3 = some r14 ∧ (zIs w13 r14 0 ∧ zCallI X d MX0_size [.ref r14] w13 (fun x16 w15 => Q (some (.int x16)) w15))))))))))))) else (Q (some (.int (-1))) w2)))) :
    zRn X d kc ks MX11_feed 0 [some (.ref p0), some (.int a1), some (.int a2), some (.int a3), some (.int a4), some (.int a5)] [] w Q := by
  refine z_aload_n p0 dX11_feed_0 rfl rfl ?_
  obtain ⟨r1, e, h⟩ := h
  refine zq_fR f_X11_32 dX11_feed_1 e ?_
  refine zq_VI (N := MX0_size) (As := []) m_X11_83 dX11_feed_4 rfl rfl (Nat.le_of_ble_eq_true rfl) h (fun x3 w2 h => ?_)
  refine z_bipush 20 dX11_feed_7 rfl ?_
  refine z_iadd dX11_feed_9 ?_
  refine z_sipush 400 dX11_feed_10 rfl ?_
  refine z_icmp_le 18 dX11_feed_13 rfl (fun hc => ?_) (fun hc => ?_)
  · rw [if_pos hc] at h
    refine z_aload_n p0 dX11_feed_18 rfl rfl ?_
    obtain ⟨r4, e, h⟩ := h
    refine zq_fR f_X11_32 dX11_feed_19 e ?_
    refine z_iload_n a1 dX11_feed_22 rfl rfl ?_
    refine zq_VV (N := MX0_putFour) (As := [.int a1]) m_X11_87 dX11_feed_23 rfl rfl (Nat.le_of_ble_eq_true rfl) h (fun w5 h => ?_)
    refine z_aload_n p0 dX11_feed_26 rfl rfl ?_
    obtain ⟨r6, e, h⟩ := h
    refine zq_fR f_X11_32 dX11_feed_27 e ?_
    refine z_iload_n a2 dX11_feed_30 rfl rfl ?_
    refine zq_VV (N := MX0_putFour) (As := [.int a2]) m_X11_87 dX11_feed_31 rfl rfl (Nat.le_of_ble_eq_true rfl) h (fun w7 h => ?_)
    refine z_aload_n p0 dX11_feed_34 rfl rfl ?_
    obtain ⟨r8, e, h⟩ := h
    refine zq_fR f_X11_32 dX11_feed_35 e ?_
    refine z_iload_n a3 dX11_feed_38 rfl rfl ?_
    refine zq_VV (N := MX0_putFour) (As := [.int a3]) m_X11_87 dX11_feed_39 rfl rfl (Nat.le_of_ble_eq_true rfl) h (fun w9 h => ?_)
    refine z_aload_n p0 dX11_feed_42 rfl rfl ?_
    obtain ⟨r10, e, h⟩ := h
    refine zq_fR f_X11_32 dX11_feed_43 e ?_
    refine z_iload a4 dX11_feed_46 rfl ?_
    refine zq_VV (N := MX0_putFour) (As := [.int a4]) m_X11_87 dX11_feed_48 rfl rfl (Nat.le_of_ble_eq_true rfl) h (fun w11 h => ?_)
    refine z_aload_n p0 dX11_feed_51 rfl rfl ?_
    obtain ⟨r12, e, h⟩ := h
    refine zq_fR f_X11_32 dX11_feed_52 e ?_
    refine z_iload a5 dX11_feed_55 rfl ?_
    refine zq_VV (N := MX0_putFour) (As := [.int a5]) m_X11_87 dX11_feed_57 rfl rfl (Nat.le_of_ble_eq_true rfl) h (fun w13 h => ?_)
    refine z_aload_n p0 dX11_feed_60 rfl rfl ?_
    obtain ⟨r14, e, h⟩ := h
    refine zq_fR f_X11_32 dX11_feed_61 e ?_
    refine zq_VI (N := MX0_size) (As := []) m_X11_83 dX11_feed_64 rfl rfl (Nat.le_of_ble_eq_true rfl) h (fun x16 w15 h => ?_)
    exact z_ireturn .int dX11_feed_67 rfl rfl h
  · rw [if_neg hc] at h
    refine z_iconst (-1) dX11_feed_16 rfl ?_
    exact z_ireturn .int dX11_feed_17 rfl rfl h
theorem eX11_feed {X : zX} {d kc ks : Nat} {w : zW} {Q : Option Value → zW → Prop} (p0 : Nat) (a1 : Int32) (a2 : Int32) (a3 : Int32) (a4 : Int32) (a5 : Int32) (h : zRn X d kc ks MX11_feed 0 [some (.ref p0), some (.int a1), some (.int a2), some (.int a3), some (.int a4), some (.int a5)] [] w Q) : zEv X d kc ks MX11_feed [.ref p0, .int a1, .int a2, .int a3, .int a4, .int a5] w Q :=
  zEv.of (by decide) (Nat.le_of_ble_eq_true rfl) (Or.inr (by simp [Value.category])) h
set_option maxRecDepth 100000 in
set_option maxHeartbeats 4000000 in
theorem bX11_end_0 {X : zX} {d kc ks : Nat} {w : zW} {Q : Option Value → zW → Prop} (p0 : Nat) (a1 : Int32)
    (h : if a1 < 0 then (Q (some (.int (-1))) w) else (∃ r1, zfR w p0 10 3 = some r1 ∧ (zIs w r1 0 ∧ zCallI X d MX0_size [.ref r1] w (fun x3 w2 => if a1 ≤ x3 then (∃ r4, zfR w2 p0 10 3 = some r4 ∧ (zIs w2 r4 0 ∧ zCallV X d MX0_shorten [.ref r4, .int a1] w2 (fun w5 => Q (some (.int a1)) w5))) else (Q (some (.int (-1))) w2))))) :
    zRn X d kc ks MX11_end 0 [some (.ref p0), some (.int a1)] [] w Q := by
  refine z_iload_n a1 dX11_end_0 rfl rfl ?_
  refine z_if_lt 15 dX11_end_1 rfl (fun hc => ?_) (fun hc => ?_)
  · rw [if_pos hc] at h
    refine z_iconst (-1) dX11_end_15 rfl ?_
    exact z_ireturn .int dX11_end_16 rfl rfl h
  · rw [if_neg hc] at h
    refine z_iload_n a1 dX11_end_4 rfl rfl ?_
    refine z_aload_n p0 dX11_end_5 rfl rfl ?_
    obtain ⟨r1, e, h⟩ := h
    refine zq_fR f_X11_32 dX11_end_6 e ?_
    refine zq_VI (N := MX0_size) (As := []) m_X11_83 dX11_end_9 rfl rfl (Nat.le_of_ble_eq_true rfl) h (fun x3 w2 h => ?_)
    refine z_icmp_le 17 dX11_end_12 rfl (fun hc => ?_) (fun hc => ?_)
    · rw [if_pos hc] at h
      refine z_aload_n p0 dX11_end_17 rfl rfl ?_
      obtain ⟨r4, e, h⟩ := h
      refine zq_fR f_X11_32 dX11_end_18 e ?_
      refine z_iload_n a1 dX11_end_21 rfl rfl ?_
      refine zq_VV (N := MX0_shorten) (As := [.int a1]) m_X11_90 dX11_end_22 rfl rfl (Nat.le_of_ble_eq_true rfl) h (fun w5 h => ?_)
      refine z_iload_n a1 dX11_end_25 rfl rfl ?_
      exact z_ireturn .int dX11_end_26 rfl rfl h
    · rw [if_neg hc] at h
      refine z_iconst (-1) dX11_end_15 rfl ?_
      exact z_ireturn .int dX11_end_16 rfl rfl h
theorem eX11_end {X : zX} {d kc ks : Nat} {w : zW} {Q : Option Value → zW → Prop} (p0 : Nat) (a1 : Int32) (h : zRn X d kc ks MX11_end 0 [some (.ref p0), some (.int a1)] [] w Q) : zEv X d kc ks MX11_end [.ref p0, .int a1] w Q :=
  zEv.of (by decide) (Nat.le_of_ble_eq_true rfl) (Or.inr (by simp [Value.category])) h
set_option maxRecDepth 100000 in
set_option maxHeartbeats 4000000 in
theorem bX11_told_0 {X : zX} {d kc ks : Nat} {w : zW} {Q : Option Value → zW → Prop} (p0 : Nat) (a1 : Int32)
    (h : zCallI X d MX11_isSlot [.int a1] w (fun x2 w1 => if x2 = 0 then (Q (some (.int (-2))) w1) else (∃ r3, zfR w1 p0 10 5 = some r3 ∧ (∃ r4, zfR w1 p0 10 1 = some r4 ∧ (zIs w1 r3 7 ∧ zCallI X d MX7_read [.ref r3, .ref r4] w1 (fun x6 w5 => ∃ r7, zfR w5 p0 10 3 = some r7 ∧ (zIs w5 r7 0 ∧ zCallV X d MX0_shorten [.ref r7, .int 0] w5 (fun w8 => if x6 = 0 then (Q (some (.int (-4))) w8) else (zIs w8 p0 10 ∧ zCallV X d MX11_become [.ref p0, .int a1] w8 (fun w9 => ∃ r10, zfR w9 p0 10 1 = some r10 ∧ (zIs w9 r10 5 ∧ zCallI X d MX5_twos [.ref r10] w9 (fun x12 w11 => Q (some (.int x12)) w11)))))))))))) :
    zRn X d kc ks MX11_told 0 [some (.ref p0), some (.int a1), none] [] w Q := by
  refine z_iload_n a1 dX11_told_0 rfl rfl ?_
  refine zq_SI (N := MX11_isSlot) (As := [.int a1]) m_X11_93 dX11_told_1 rfl rfl (Nat.le_of_ble_eq_true rfl) h (fun x2 w1 h => ?_)
  refine z_if_ne 10 dX11_told_4 rfl (fun hc => ?_) (fun hc => ?_)
  · rw [if_neg hc] at h
    refine z_aload_n p0 dX11_told_10 rfl rfl ?_
    obtain ⟨r3, e, h⟩ := h
    refine zq_fR f_X11_44 dX11_told_11 e ?_
    refine z_aload_n p0 dX11_told_14 rfl rfl ?_
    obtain ⟨r4, e, h⟩ := h
    refine zq_fR f_X11_16 dX11_told_15 e ?_
    refine zq_VI (N := MX7_read) (As := [.ref r4]) m_X11_97 dX11_told_18 rfl rfl (Nat.le_of_ble_eq_true rfl) h (fun x6 w5 h => ?_)
    refine z_istore_n (i := 2) dX11_told_21 rfl (by decide) rfl ?_
    refine z_aload_n p0 dX11_told_22 rfl rfl ?_
    obtain ⟨r7, e, h⟩ := h
    refine zq_fR f_X11_32 dX11_told_23 e ?_
    refine z_iconst 0 dX11_told_26 rfl ?_
    refine zq_VV (N := MX0_shorten) (As := [.int 0]) m_X11_90 dX11_told_27 rfl rfl (Nat.le_of_ble_eq_true rfl) h (fun w8 h => ?_)
    refine z_iload_n x6 dX11_told_30 rfl rfl ?_
    refine z_if_ne 37 dX11_told_31 rfl (fun hc => ?_) (fun hc => ?_)
    · rw [if_neg hc] at h
      refine z_aload_n p0 dX11_told_37 rfl rfl ?_
      refine z_iload_n a1 dX11_told_38 rfl rfl ?_
      refine zq_VV (N := MX11_become) (As := [.int a1]) m_X11_101 dX11_told_39 rfl rfl (Nat.le_of_ble_eq_true rfl) h (fun w9 h => ?_)
      refine z_aload_n p0 dX11_told_42 rfl rfl ?_
      obtain ⟨r10, e, h⟩ := h
      refine zq_fR f_X11_16 dX11_told_43 e ?_
      refine zq_VI (N := MX5_twos) (As := []) m_X11_104 dX11_told_46 rfl rfl (Nat.le_of_ble_eq_true rfl) h (fun x12 w11 h => ?_)
      exact z_ireturn .int dX11_told_49 rfl rfl h
    · rw [if_pos hc] at h
      refine z_bipush (-4) dX11_told_34 rfl ?_
      exact z_ireturn .int dX11_told_36 rfl rfl h
  · rw [if_pos hc] at h
    refine z_bipush (-2) dX11_told_7 rfl ?_
    exact z_ireturn .int dX11_told_9 rfl rfl h
theorem eX11_told {X : zX} {d kc ks : Nat} {w : zW} {Q : Option Value → zW → Prop} (p0 : Nat) (a1 : Int32) (h : zRn X d kc ks MX11_told 0 [some (.ref p0), some (.int a1), none] [] w Q) : zEv X d kc ks MX11_told [.ref p0, .int a1] w Q :=
  zEv.of (by decide) (Nat.le_of_ble_eq_true rfl) (Or.inr (by simp [Value.category])) h
set_option maxRecDepth 100000 in
set_option maxHeartbeats 4000000 in
theorem bX11_isSlot_0 {X : zX} {d kc ks : Nat} {w : zW} {Q : Option Value → zW → Prop} (a0 : Int32)
    (h : if a0 < 0 then (Q (some (.int 0)) w) else (if 3 ≤ a0 then (Q (some (.int 0)) w) else (Q (some (.int 1)) w))) :
    zRn X d kc ks MX11_isSlot 0 [some (.int a0)] [] w Q := by
  refine z_iload_n a0 dX11_isSlot_0 rfl rfl ?_
  refine z_if_lt 13 dX11_isSlot_1 rfl (fun hc => ?_) (fun hc => ?_)
  · rw [if_pos hc] at h
    refine z_iconst 0 dX11_isSlot_13 rfl ?_
    exact z_ireturn .boolean dX11_isSlot_14 rfl rfl h
  · rw [if_neg hc] at h
    refine z_iload_n a0 dX11_isSlot_4 rfl rfl ?_
    refine z_iconst 3 dX11_isSlot_5 rfl ?_
    refine z_icmp_ge 13 dX11_isSlot_6 rfl (fun hc => ?_) (fun hc => ?_)
    · rw [if_pos hc] at h
      refine z_iconst 0 dX11_isSlot_13 rfl ?_
      exact z_ireturn .boolean dX11_isSlot_14 rfl rfl h
    · rw [if_neg hc] at h
      refine z_iconst 1 dX11_isSlot_9 rfl ?_
      refine z_goto 14 dX11_isSlot_10 rfl ?_
      exact z_ireturn .boolean dX11_isSlot_14 rfl rfl h
theorem eX11_isSlot {X : zX} {d kc ks : Nat} {w : zW} {Q : Option Value → zW → Prop} (a0 : Int32) (h : zRn X d kc ks MX11_isSlot 0 [some (.int a0)] [] w Q) : zEv X d kc ks MX11_isSlot [.int a0] w Q :=
  zEv.of (by decide) (Nat.le_of_ble_eq_true rfl) (Or.inr (by simp [Value.category])) h
set_option maxRecDepth 100000 in
set_option maxHeartbeats 4000000 in
theorem bX11_become_0 {X : zX} {d kc ks : Nat} {w : zW} {Q : Option Value → zW → Prop} (p0 : Nat) (a1 : Int32)
    (h : zCallI X d MX11_isSlot [.int a1] w (fun x2 w1 => if x2 = 0 then (Q none w1) else (∃ r3, zfR w1 p0 10 0 = some r3 ∧ (∃ r4, zaR w1 r3 a1 = some r4 ∧ (∃ r5, zfR w1 p0 10 1 = some r5 ∧ (zIs w1 r4 5 ∧ zCallI X d MX5_sameAs [.ref r4, .ref r5] w1 (fun x7 w6 => if x7 = 0 then (∃ r8, zfR w6 p0 10 2 = some r8 ∧ (∃ r9, zfR w6 p0 10 0 = some r9 ∧ (∃ r10, zaR w6 r9 a1 = some r10 ∧ (zIs w6 r8 6 ∧ zCallV X d MX6_keep [.ref r8, .int a1, .ref r10] w6 (fun w11 => ∃ r12, zfR w11 p0 10 0 = some r12 ∧ (∃ r13, zaR w11 r12 a1 = some r13 ∧ (∃ r14, zfR w11 p0 10 1 = some r14 ∧ (zIs w11 r13 5 ∧ zCallV X d MX5_copyFrom [.ref r13, .ref r14] w11 (fun w15 => Q none w15))))))))) else (Q none w6)))))))) :
    zRn X d kc ks MX11_become 0 [some (.ref p0), some (.int a1)] [] w Q := by
  refine z_iload_n a1 dX11_become_0 rfl rfl ?_
  refine zq_SI (N := MX11_isSlot) (As := [.int a1]) m_X11_93 dX11_become_1 rfl rfl (Nat.le_of_ble_eq_true rfl) h (fun x2 w1 h => ?_)
  refine z_if_eq 23 dX11_become_4 rfl (fun hc => ?_) (fun hc => ?_)
  · rw [if_pos hc] at h
    exact z_vreturn dX11_become_23 rfl h
  · rw [if_neg hc] at h
    refine z_aload_n p0 dX11_become_7 rfl rfl ?_
    obtain ⟨r3, e, h⟩ := h
    refine zq_fR f_X11_11 dX11_become_8 e ?_
    refine z_iload_n a1 dX11_become_11 rfl rfl ?_
    obtain ⟨r4, e, h⟩ := h
    refine zq_aR dX11_become_12 e ?_
    refine z_aload_n p0 dX11_become_13 rfl rfl ?_
    obtain ⟨r5, e, h⟩ := h
    refine zq_fR f_X11_16 dX11_become_14 e ?_
    refine zq_VI (N := MX5_sameAs) (As := [.ref r5]) m_X11_357 dX11_become_17 rfl rfl (Nat.le_of_ble_eq_true rfl) h (fun x7 w6 h => ?_)
    refine z_if_eq 24 dX11_become_20 rfl (fun hc => ?_) (fun hc => ?_)
    · rw [if_pos hc] at h
      refine z_aload_n p0 dX11_become_24 rfl rfl ?_
      obtain ⟨r8, e, h⟩ := h
      refine zq_fR f_X11_23 dX11_become_25 e ?_
      refine z_iload_n a1 dX11_become_28 rfl rfl ?_
      refine z_aload_n p0 dX11_become_29 rfl rfl ?_
      obtain ⟨r9, e, h⟩ := h
      refine zq_fR f_X11_11 dX11_become_30 e ?_
      refine z_iload_n a1 dX11_become_33 rfl rfl ?_
      obtain ⟨r10, e, h⟩ := h
      refine zq_aR dX11_become_34 e ?_
      refine zq_VV (N := MX6_keep) (As := [.int a1, .ref r10]) m_X11_360 dX11_become_35 rfl rfl (Nat.le_of_ble_eq_true rfl) h (fun w11 h => ?_)
      refine z_aload_n p0 dX11_become_38 rfl rfl ?_
      obtain ⟨r12, e, h⟩ := h
      refine zq_fR f_X11_11 dX11_become_39 e ?_
      refine z_iload_n a1 dX11_become_42 rfl rfl ?_
      obtain ⟨r13, e, h⟩ := h
      refine zq_aR dX11_become_43 e ?_
      refine z_aload_n p0 dX11_become_44 rfl rfl ?_
      obtain ⟨r14, e, h⟩ := h
      refine zq_fR f_X11_16 dX11_become_45 e ?_
      refine zq_VV (N := MX5_copyFrom) (As := [.ref r14]) m_X11_290 dX11_become_48 rfl rfl (Nat.le_of_ble_eq_true rfl) h (fun w15 h => ?_)
      exact z_vreturn dX11_become_51 rfl h
    · rw [if_neg hc] at h
      exact z_vreturn dX11_become_23 rfl h
theorem eX11_become {X : zX} {d kc ks : Nat} {w : zW} {Q : Option Value → zW → Prop} (p0 : Nat) (a1 : Int32) (h : zRn X d kc ks MX11_become 0 [some (.ref p0), some (.int a1)] [] w Q) : zEv X d kc ks MX11_become [.ref p0, .int a1] w Q :=
  zEv.of (by decide) (Nat.le_of_ble_eq_true rfl) (Or.inr (by simp [Value.category])) h
set_option maxRecDepth 100000 in
set_option maxHeartbeats 4000000 in
theorem bX11_fault_0 {X : zX} {d kc ks : Nat} {w : zW} {Q : Option Value → zW → Prop} (p0 : Nat) (a1 : Int32)
    (h : if a1 = 0 then (∃ r1, zfR w p0 10 5 = some r1 ∧ (zIs w r1 7 ∧ zCallI X d MX7_faultKind [.ref r1] w (fun x3 w2 => Q (some (.int x3)) w2))) else if a1 = 1 then (∃ r4, zfR w p0 10 5 = some r4 ∧ (zIs w r4 7 ∧ zCallI X d MX7_faultPlace [.ref r4] w (fun x6 w5 => Q (some (.int x6)) w5))) else (Q (some (.int (-1))) w)) :
    zRn X d kc ks MX11_fault 0 [some (.ref p0), some (.int a1)] [] w Q := by
  refine z_iload_n a1 dX11_fault_0 rfl rfl ?_
  by_cases hx0 : a1 = 0
  · rw [if_pos hx0] at h
    refine z_lookup 28 dX11_fault_1 (by decide) (by rw [hx0]) rfl ?_
    refine z_aload_n p0 dX11_fault_28 rfl rfl ?_
    obtain ⟨r1, e, h⟩ := h
    refine zq_fR f_X11_44 dX11_fault_29 e ?_
    refine zq_VI (N := MX7_faultKind) (As := []) m_X11_107 dX11_fault_32 rfl rfl (Nat.le_of_ble_eq_true rfl) h (fun x3 w2 h => ?_)
    exact z_ireturn .int dX11_fault_35 rfl rfl h
  · rw [if_neg hx0] at h
    by_cases hx1 : a1 = 1
    · rw [if_pos hx1] at h
      refine z_lookup 36 dX11_fault_1 (by decide) (by rw [hx1]) rfl ?_
      refine z_aload_n p0 dX11_fault_36 rfl rfl ?_
      obtain ⟨r4, e, h⟩ := h
      refine zq_fR f_X11_44 dX11_fault_37 e ?_
      refine zq_VI (N := MX7_faultPlace) (As := []) m_X11_110 dX11_fault_40 rfl rfl (Nat.le_of_ble_eq_true rfl) h (fun x6 w5 h => ?_)
      exact z_ireturn .int dX11_fault_43 rfl rfl h
    · rw [if_neg hx1] at h
      refine z_lookup 44 dX11_fault_1 (by decide) (zsw_lk hx0 hx1) rfl ?_
      refine z_iconst (-1) dX11_fault_44 rfl ?_
      exact z_ireturn .int dX11_fault_45 rfl rfl h
theorem eX11_fault {X : zX} {d kc ks : Nat} {w : zW} {Q : Option Value → zW → Prop} (p0 : Nat) (a1 : Int32) (h : zRn X d kc ks MX11_fault 0 [some (.ref p0), some (.int a1)] [] w Q) : zEv X d kc ks MX11_fault [.ref p0, .int a1] w Q :=
  zEv.of (by decide) (Nat.le_of_ble_eq_true rfl) (Or.inr (by simp [Value.category])) h
set_option maxRecDepth 100000 in
set_option maxHeartbeats 4000000 in
theorem bX11_count_0 {X : zX} {d kc ks : Nat} {w : zW} {Q : Option Value → zW → Prop} (p0 : Nat) (a1 : Int32)
    (h : (a1 = 0 → (zIs w p0 10 ∧ zCallI X d MX11_filledSlots [.ref p0] w (fun x2 w1 => Q (some (.int x2)) w1))) ∧ (a1 = 1 → (∃ r3, zfR w p0 10 2 = some r3 ∧ (zIs w r3 6 ∧ zCallI X d MX6_size [.ref r3] w (fun x5 w4 => Q (some (.int x5)) w4)))) ∧ (a1 = 2 → (∃ r6, zfR w p0 10 3 = some r6 ∧ (zIs w r6 0 ∧ zCallI X d MX0_size [.ref r6] w (fun x8 w7 => Q (some (.int x8)) w7)))) ∧ (a1 = 3 → (∃ r9, zfR w p0 10 4 = some r9 ∧ (zIs w r9 0 ∧ zCallI X d MX0_size [.ref r9] w (fun x11 w10 => Q (some (.int x11)) w10)))) ∧ (¬ (0 ≤ a1 ∧ a1 < 4) → (Q (some (.int (-1))) w))) :
    zRn X d kc ks MX11_count 0 [some (.ref p0), some (.int a1)] [] w Q := by
  refine z_iload_n a1 dX11_count_0 rfl rfl ?_
  rcases pk_ix a1 (n := 4) (by decide) with hx | hx | ⟨j, hj, hx⟩
  · refine z_tableOut 61 dX11_count_1 (zsw_lo hx) rfl ?_
    have h := h.2.2.2.2 (fun q => absurd hx (Int32.not_lt.mpr q.1))
    refine z_iconst (-1) dX11_count_61 rfl ?_
    exact z_ireturn .int dX11_count_62 rfl rfl h
  · refine z_tableOut 61 dX11_count_1 (zsw_hi (n := 4) (by decide) rfl hx) rfl ?_
    have h := h.2.2.2.2 (fun q => absurd q.2 (Int32.not_lt.mpr hx))
    refine z_iconst (-1) dX11_count_61 rfl ?_
    exact z_ireturn .int dX11_count_62 rfl rfl h
  · rcases (show j = 0 ∨ j = 1 ∨ j = 2 ∨ j = 3 by omega) with rfl | rfl | rfl | rfl
    · refine z_tableIn 32 dX11_count_1 (by rw [hx]; decide) (by rw [hx]; decide) (by rw [hx]; rfl) rfl ?_
      have h := h.1 hx
      refine z_aload_n p0 dX11_count_32 rfl rfl ?_
      refine zq_VI (N := MX11_filledSlots) (As := []) m_X11_113 dX11_count_33 rfl rfl (Nat.le_of_ble_eq_true rfl) h (fun x2 w1 h => ?_)
      exact z_ireturn .int dX11_count_36 rfl rfl h
    · refine z_tableIn 37 dX11_count_1 (by rw [hx]; decide) (by rw [hx]; decide) (by rw [hx]; rfl) rfl ?_
      have h := h.2.1 hx
      refine z_aload_n p0 dX11_count_37 rfl rfl ?_
      obtain ⟨r3, e, h⟩ := h
      refine zq_fR f_X11_23 dX11_count_38 e ?_
      refine zq_VI (N := MX6_size) (As := []) m_X11_116 dX11_count_41 rfl rfl (Nat.le_of_ble_eq_true rfl) h (fun x5 w4 h => ?_)
      exact z_ireturn .int dX11_count_44 rfl rfl h
    · refine z_tableIn 45 dX11_count_1 (by rw [hx]; decide) (by rw [hx]; decide) (by rw [hx]; rfl) rfl ?_
      have h := h.2.2.1 hx
      refine z_aload_n p0 dX11_count_45 rfl rfl ?_
      obtain ⟨r6, e, h⟩ := h
      refine zq_fR f_X11_32 dX11_count_46 e ?_
      refine zq_VI (N := MX0_size) (As := []) m_X11_83 dX11_count_49 rfl rfl (Nat.le_of_ble_eq_true rfl) h (fun x8 w7 h => ?_)
      exact z_ireturn .int dX11_count_52 rfl rfl h
    · refine z_tableIn 53 dX11_count_1 (by rw [hx]; decide) (by rw [hx]; decide) (by rw [hx]; rfl) rfl ?_
      have h := h.2.2.2.1 hx
      refine z_aload_n p0 dX11_count_53 rfl rfl ?_
      obtain ⟨r9, e, h⟩ := h
      refine zq_fR f_X11_36 dX11_count_54 e ?_
      refine zq_VI (N := MX0_size) (As := []) m_X11_83 dX11_count_57 rfl rfl (Nat.le_of_ble_eq_true rfl) h (fun x11 w10 h => ?_)
      exact z_ireturn .int dX11_count_60 rfl rfl h
theorem eX11_count {X : zX} {d kc ks : Nat} {w : zW} {Q : Option Value → zW → Prop} (p0 : Nat) (a1 : Int32) (h : zRn X d kc ks MX11_count 0 [some (.ref p0), some (.int a1)] [] w Q) : zEv X d kc ks MX11_count [.ref p0, .int a1] w Q :=
  zEv.of (by decide) (Nat.le_of_ble_eq_true rfl) (Or.inr (by simp [Value.category])) h
set_option maxRecDepth 100000 in
set_option maxHeartbeats 4000000 in
theorem bX11_filledSlots_0 {X : zX} {d kc ks : Nat} {w : zW} {Q : Option Value → zW → Prop} (p0 : Nat)
    (h : zRn X d kc ks MX11_filledSlots 4 [some (.ref p0), some (.int 0), some (.int 0)] [] w Q) :
    zRn X d kc ks MX11_filledSlots 0 [some (.ref p0), none, none] [] w Q := by
  refine z_iconst 0 dX11_filledSlots_0 rfl ?_
  refine z_istore_n (i := 1) dX11_filledSlots_1 rfl (by decide) rfl ?_
  refine z_iconst 0 dX11_filledSlots_2 rfl ?_
  refine z_istore_n (i := 2) dX11_filledSlots_3 rfl (by decide) rfl ?_
  exact h
set_option maxRecDepth 100000 in
set_option maxHeartbeats 4000000 in
theorem bX11_filledSlots_4 {X : zX} {d kc ks : Nat} {w : zW} {Q : Option Value → zW → Prop} (v0 : Nat) (v1 : Int32) (v2 : Int32)
    (h : if 3 ≤ v2 then (Q (some (.int v1)) w) else (zIs w v0 10 ∧ zCallO X d MX11_orderIn [.ref v0, .int v2] w (fun w1 => zRn X d kc ks MX11_filledSlots 23 [some (.ref v0), some (.int v1), some (.int v2)] [] w1 Q) (fun r2 w1 => zRn X d kc ks MX11_filledSlots 23 [some (.ref v0), some (.int (v1 ||| ((1 : Int32) <<< (v2 &&& 31)))), some (.int v2)] [] w1 Q))) :
    zRn X d kc ks MX11_filledSlots 4 [some (.ref v0), some (.int v1), some (.int v2)] [] w Q := by
  refine z_iload_n v2 dX11_filledSlots_4 rfl rfl ?_
  refine z_iconst 3 dX11_filledSlots_5 rfl ?_
  refine z_icmp_ge 29 dX11_filledSlots_6 rfl (fun hc => ?_) (fun hc => ?_)
  · rw [if_pos hc] at h
    refine z_iload_n v1 dX11_filledSlots_29 rfl rfl ?_
    exact z_ireturn .int dX11_filledSlots_30 rfl rfl h
  · rw [if_neg hc] at h
    refine z_aload_n v0 dX11_filledSlots_9 rfl rfl ?_
    refine z_iload_n v2 dX11_filledSlots_10 rfl rfl ?_
    refine zq_VO (N := MX11_orderIn) (As := [.int v2]) m_X11_117 dX11_filledSlots_11 rfl rfl (Nat.le_of_ble_eq_true rfl) h (fun w1 h => ?_) (fun r2 w1 h => ?_)
    · refine z_ifnullN 23 dX11_filledSlots_14 rfl ?_
      exact h
    · refine z_ifnull dX11_filledSlots_14 ?_
      refine z_iload_n v1 dX11_filledSlots_17 rfl rfl ?_
      refine z_iconst 1 dX11_filledSlots_18 rfl ?_
      refine z_iload_n v2 dX11_filledSlots_19 rfl rfl ?_
      refine z_ishl dX11_filledSlots_20 ?_
      refine z_ior dX11_filledSlots_21 ?_
      refine z_istore_n (i := 1) dX11_filledSlots_22 rfl (by decide) rfl ?_
      exact h
set_option maxRecDepth 100000 in
set_option maxHeartbeats 4000000 in
theorem bX11_filledSlots_23 {X : zX} {d kc ks : Nat} {w : zW} {Q : Option Value → zW → Prop} (v0 : Nat) (v1 : Int32) (v2 : Int32)
    (h : zRn X d kc ks MX11_filledSlots 4 [some (.ref v0), some (.int v1), some (.int (v2 + 1))] [] w Q) :
    zRn X d kc ks MX11_filledSlots 23 [some (.ref v0), some (.int v1), some (.int v2)] [] w Q := by
  refine z_iinc (i := 2) v2 (v2 + 1) dX11_filledSlots_23 rfl rfl (by decide) rfl ?_
  refine z_goto 4 dX11_filledSlots_26 rfl ?_
  exact h
theorem eX11_filledSlots {X : zX} {d kc ks : Nat} {w : zW} {Q : Option Value → zW → Prop} (p0 : Nat) (h : zRn X d kc ks MX11_filledSlots 0 [some (.ref p0), none, none] [] w Q) : zEv X d kc ks MX11_filledSlots [.ref p0] w Q :=
  zEv.of (by decide) (Nat.le_of_ble_eq_true rfl) (Or.inr (by simp [Value.category])) h
set_option maxRecDepth 100000 in
set_option maxHeartbeats 4000000 in
theorem bX11_orderIn_0 {X : zX} {d kc ks : Nat} {w : zW} {Q : Option Value → zW → Prop} (p0 : Nat) (a1 : Int32)
    (h : zCallI X d MX11_isSlot [.int a1] w (fun x2 w1 => if x2 = 0 then (Q (some .null) w1) else (∃ r3, zfR w1 p0 10 0 = some r3 ∧ (∃ r4, zaR w1 r3 a1 = some r4 ∧ (zIs w1 r4 5 ∧ zCallI X d MX5_size [.ref r4] w1 (fun x6 w5 => if x6 = 0 then (Q (some .null) w5) else (∃ r7, zfR w5 p0 10 0 = some r7 ∧ (∃ r8, zaR w5 r7 a1 = some r8 ∧ (Q (some (.ref r8)) w5))))))))) :
    zRn X d kc ks MX11_orderIn 0 [some (.ref p0), some (.int a1)] [] w Q := by
  refine z_iload_n a1 dX11_orderIn_0 rfl rfl ?_
  refine zq_SI (N := MX11_isSlot) (As := [.int a1]) m_X11_93 dX11_orderIn_1 rfl rfl (Nat.le_of_ble_eq_true rfl) h (fun x2 w1 h => ?_)
  refine z_if_eq 19 dX11_orderIn_4 rfl (fun hc => ?_) (fun hc => ?_)
  · rw [if_pos hc] at h
    refine z_null dX11_orderIn_19 ?_
    exact z_nreturn _ dX11_orderIn_20 rfl h
  · rw [if_neg hc] at h
    refine z_aload_n p0 dX11_orderIn_7 rfl rfl ?_
    obtain ⟨r3, e, h⟩ := h
    refine zq_fR f_X11_11 dX11_orderIn_8 e ?_
    refine z_iload_n a1 dX11_orderIn_11 rfl rfl ?_
    obtain ⟨r4, e, h⟩ := h
    refine zq_aR dX11_orderIn_12 e ?_
    refine zq_VI (N := MX5_size) (As := []) m_X11_121 dX11_orderIn_13 rfl rfl (Nat.le_of_ble_eq_true rfl) h (fun x6 w5 h => ?_)
    refine z_if_ne 21 dX11_orderIn_16 rfl (fun hc => ?_) (fun hc => ?_)
    · rw [if_neg hc] at h
      refine z_aload_n p0 dX11_orderIn_21 rfl rfl ?_
      obtain ⟨r7, e, h⟩ := h
      refine zq_fR f_X11_11 dX11_orderIn_22 e ?_
      refine z_iload_n a1 dX11_orderIn_25 rfl rfl ?_
      obtain ⟨r8, e, h⟩ := h
      refine zq_aR dX11_orderIn_26 e ?_
      exact z_areturn _ dX11_orderIn_27 rfl h
    · rw [if_pos hc] at h
      refine z_null dX11_orderIn_19 ?_
      exact z_nreturn _ dX11_orderIn_20 rfl h
theorem eX11_orderIn {X : zX} {d kc ks : Nat} {w : zW} {Q : Option Value → zW → Prop} (p0 : Nat) (a1 : Int32) (h : zRn X d kc ks MX11_orderIn 0 [some (.ref p0), some (.int a1)] [] w Q) : zEv X d kc ks MX11_orderIn [.ref p0, .int a1] w Q :=
  zEv.of (by decide) (Nat.le_of_ble_eq_true rfl) (Or.inr (by simp [Value.category])) h
set_option maxRecDepth 100000 in
set_option maxHeartbeats 4000000 in
theorem bX11_look_0 {X : zX} {d kc ks : Nat} {w : zW} {Q : Option Value → zW → Prop} (p0 : Nat) (a1 : Int32) (a2 : Int32)
    (h : zIs w p0 10 ∧ zCallO X d MX11_orderIn [.ref p0, .int a1] w (fun w1 => Q (some (.int (-2))) w1) (fun r2 w1 => (a2 = 0 → (zIs w1 r2 5 ∧ zCallI X d MX5_size [.ref r2] w1 (fun x4 w3 => Q (some (.int x4)) w3))) ∧ (a2 = 1 → (zIs w1 r2 5 ∧ zCallI X d MX5_twos [.ref r2] w1 (fun x6 w5 => Q (some (.int x6)) w5))) ∧ (a2 = 2 → (zIs w1 r2 5 ∧ zCallI X d MX5_covers [.ref r2] w1 (fun x8 w7 => Q (some (.int x8)) w7))) ∧ (a2 = 3 → (∃ r9, zfR w1 p0 10 6 = some r9 ∧ (zIs w1 r9 1 ∧ zCallI X d MX1_height [.ref r9, .ref r2] w1 (fun x11 w10 => Q (some (.int x11)) w10)))) ∧ (a2 = 4 → (zCallI X d MX10_widest [.ref r2] w1 (fun x13 w12 => zCallI X d MJ6_bitCount_0f7a4 [.int x13] w12 (fun x15 w14 => Q (some (.int x15)) w14)))) ∧ (a2 = 5 → (zIs w1 r2 5 ∧ zCallI X d MX5_freeTwos [.ref r2] w1 (fun x17 w16 => Q (some (.int x17)) w16))) ∧ (a2 = 6 → (zCallI X d MX10_ideals [.ref r2] w1 (fun x19 w18 => Q (some (.int x19)) w18))) ∧ (a2 = 7 → (zCallI X d MX10_hangingParts [.ref r2] w1 (fun x21 w20 => Q (some (.int x21)) w20))) ∧ (a2 = 8 → (zIs w1 r2 5 ∧ zCallR X d MX5_rows [.ref r2] w1 (fun r23 w22 => zIs w22 r23 8 ∧ zCallI X d MX8_size [.ref r23] w22 (fun x25 w24 => Q (some (.int x25)) w24)))) ∧ (¬ (0 ≤ a2 ∧ a2 < 9) → (Q (some (.int (-2))) w1)))) :
    zRn X d kc ks MX11_look 0 [some (.ref p0), some (.int a1), some (.int a2), none] [] w Q := by
  refine z_aload_n p0 dX11_look_0 rfl rfl ?_
  refine z_iload_n a1 dX11_look_1 rfl rfl ?_
  refine zq_VO (N := MX11_orderIn) (As := [.int a1]) m_X11_117 dX11_look_2 rfl rfl (Nat.le_of_ble_eq_true rfl) h (fun w1 h => ?_) (fun r2 w1 h => ?_)
  · refine z_nstore_n (i := 3) dX11_look_5 rfl (by decide) rfl ?_
    refine z_nload_n dX11_look_6 rfl rfl ?_
    refine z_ifnonnullN dX11_look_7 ?_
    refine z_bipush (-2) dX11_look_10 rfl ?_
    exact z_ireturn .int dX11_look_12 rfl rfl h
  · refine z_astore_n (i := 3) dX11_look_5 rfl (by decide) rfl ?_
    refine z_aload_n r2 dX11_look_6 rfl rfl ?_
    refine z_ifnonnull 13 dX11_look_7 rfl ?_
    refine z_iload_n a2 dX11_look_13 rfl rfl ?_
    rcases pk_ix a2 (n := 9) (by decide) with hx | hx | ⟨j, hj, hx⟩
    · refine z_tableOut 119 dX11_look_14 (zsw_lo hx) rfl ?_
      have h := h.2.2.2.2.2.2.2.2.2 (fun q => absurd hx (Int32.not_lt.mpr q.1))
      refine z_bipush (-2) dX11_look_119 rfl ?_
      exact z_ireturn .int dX11_look_121 rfl rfl h
    · refine z_tableOut 119 dX11_look_14 (zsw_hi (n := 9) (by decide) rfl hx) rfl ?_
      have h := h.2.2.2.2.2.2.2.2.2 (fun q => absurd q.2 (Int32.not_lt.mpr hx))
      refine z_bipush (-2) dX11_look_119 rfl ?_
      exact z_ireturn .int dX11_look_121 rfl rfl h
    · rcases (show j = 0 ∨ j = 1 ∨ j = 2 ∨ j = 3 ∨ j = 4 ∨ j = 5 ∨ j = 6 ∨ j = 7 ∨ j = 8 by omega) with rfl | rfl | rfl | rfl | rfl | rfl | rfl | rfl | rfl
      · refine z_tableIn 64 dX11_look_14 (by rw [hx]; decide) (by rw [hx]; decide) (by rw [hx]; rfl) rfl ?_
        have h := h.1 hx
        refine z_aload_n r2 dX11_look_64 rfl rfl ?_
        refine zq_VI (N := MX5_size) (As := []) m_X11_121 dX11_look_65 rfl rfl (Nat.le_of_ble_eq_true rfl) h (fun x4 w3 h => ?_)
        exact z_ireturn .int dX11_look_68 rfl rfl h
      · refine z_tableIn 69 dX11_look_14 (by rw [hx]; decide) (by rw [hx]; decide) (by rw [hx]; rfl) rfl ?_
        have h := h.2.1 hx
        refine z_aload_n r2 dX11_look_69 rfl rfl ?_
        refine zq_VI (N := MX5_twos) (As := []) m_X11_104 dX11_look_70 rfl rfl (Nat.le_of_ble_eq_true rfl) h (fun x6 w5 h => ?_)
        exact z_ireturn .int dX11_look_73 rfl rfl h
      · refine z_tableIn 74 dX11_look_14 (by rw [hx]; decide) (by rw [hx]; decide) (by rw [hx]; rfl) rfl ?_
        have h := h.2.2.1 hx
        refine z_aload_n r2 dX11_look_74 rfl rfl ?_
        refine zq_VI (N := MX5_covers) (As := []) m_X11_122 dX11_look_75 rfl rfl (Nat.le_of_ble_eq_true rfl) h (fun x8 w7 h => ?_)
        exact z_ireturn .int dX11_look_78 rfl rfl h
      · refine z_tableIn 79 dX11_look_14 (by rw [hx]; decide) (by rw [hx]; decide) (by rw [hx]; rfl) rfl ?_
        have h := h.2.2.2.1 hx
        refine z_aload_n p0 dX11_look_79 rfl rfl ?_
        obtain ⟨r9, e, h⟩ := h
        refine zq_fR f_X11_51 dX11_look_80 e ?_
        refine z_aload_n r2 dX11_look_83 rfl rfl ?_
        refine zq_VI (N := MX1_height) (As := [.ref r2]) m_X11_125 dX11_look_84 rfl rfl (Nat.le_of_ble_eq_true rfl) h (fun x11 w10 h => ?_)
        exact z_ireturn .int dX11_look_87 rfl rfl h
      · refine z_tableIn 88 dX11_look_14 (by rw [hx]; decide) (by rw [hx]; decide) (by rw [hx]; rfl) rfl ?_
        have h := h.2.2.2.2.1 hx
        refine z_aload_n r2 dX11_look_88 rfl rfl ?_
        refine zq_SI (N := MX10_widest) (As := [.ref r2]) m_X11_129 dX11_look_89 rfl rfl (Nat.le_of_ble_eq_true rfl) h (fun x13 w12 h => ?_)
        refine zq_SI (N := MJ6_bitCount_0f7a4) (As := [.int x13]) m_X11_134 dX11_look_92 rfl rfl (Nat.le_of_ble_eq_true rfl) h (fun x15 w14 h => ?_)
        exact z_ireturn .int dX11_look_95 rfl rfl h
      · refine z_tableIn 96 dX11_look_14 (by rw [hx]; decide) (by rw [hx]; decide) (by rw [hx]; rfl) rfl ?_
        have h := h.2.2.2.2.2.1 hx
        refine z_aload_n r2 dX11_look_96 rfl rfl ?_
        refine zq_VI (N := MX5_freeTwos) (As := []) m_X11_140 dX11_look_97 rfl rfl (Nat.le_of_ble_eq_true rfl) h (fun x17 w16 h => ?_)
        exact z_ireturn .int dX11_look_100 rfl rfl h
      · refine z_tableIn 101 dX11_look_14 (by rw [hx]; decide) (by rw [hx]; decide) (by rw [hx]; rfl) rfl ?_
        have h := h.2.2.2.2.2.2.1 hx
        refine z_aload_n r2 dX11_look_101 rfl rfl ?_
        refine zq_SI (N := MX10_ideals) (As := [.ref r2]) m_X11_143 dX11_look_102 rfl rfl (Nat.le_of_ble_eq_true rfl) h (fun x19 w18 h => ?_)
        exact z_ireturn .int dX11_look_105 rfl rfl h
      · refine z_tableIn 106 dX11_look_14 (by rw [hx]; decide) (by rw [hx]; decide) (by rw [hx]; rfl) rfl ?_
        have h := h.2.2.2.2.2.2.2.1 hx
        refine z_aload_n r2 dX11_look_106 rfl rfl ?_
        refine zq_SI (N := MX10_hangingParts) (As := [.ref r2]) m_X11_146 dX11_look_107 rfl rfl (Nat.le_of_ble_eq_true rfl) h (fun x21 w20 h => ?_)
        exact z_ireturn .int dX11_look_110 rfl rfl h
      · refine z_tableIn 111 dX11_look_14 (by rw [hx]; decide) (by rw [hx]; decide) (by rw [hx]; rfl) rfl ?_
        have h := h.2.2.2.2.2.2.2.2.1 hx
        refine z_aload_n r2 dX11_look_111 rfl rfl ?_
        refine zq_VR (N := MX5_rows) (As := []) m_X11_149 dX11_look_112 rfl rfl (Nat.le_of_ble_eq_true rfl) h (fun r23 w22 h => ?_)
        refine zq_VI (N := MX8_size) (As := []) m_X11_153 dX11_look_115 rfl rfl (Nat.le_of_ble_eq_true rfl) h (fun x25 w24 h => ?_)
        exact z_ireturn .int dX11_look_118 rfl rfl h
theorem eX11_look {X : zX} {d kc ks : Nat} {w : zW} {Q : Option Value → zW → Prop} (p0 : Nat) (a1 : Int32) (a2 : Int32) (h : zRn X d kc ks MX11_look 0 [some (.ref p0), some (.int a1), some (.int a2), none] [] w Q) : zEv X d kc ks MX11_look [.ref p0, .int a1, .int a2] w Q :=
  zEv.of (by decide) (Nat.le_of_ble_eq_true rfl) (Or.inr (by simp [Value.category])) h
set_option maxRecDepth 100000 in
set_option maxHeartbeats 4000000 in
theorem bX11_of_0 {X : zX} {d kc ks : Nat} {w : zW} {Q : Option Value → zW → Prop} (p0 : Nat) (a1 : Int32) (a2 : Int32) (a3 : Int32)
    (h : zIs w p0 10 ∧ zCallO X d MX11_orderWith [.ref p0, .int a1, .int a2] w (fun w1 => Q (some (.int (-2))) w1) (fun r2 w1 => (a3 = 0 → (zIs w1 r2 5 ∧ zCallI X d MX5_belowOf [.ref r2, .int a2] w1 (fun x4 w3 => Q (some (.int x4)) w3))) ∧ (a3 = 1 → (zIs w1 r2 5 ∧ zCallI X d MX5_aboveOf [.ref r2, .int a2] w1 (fun x6 w5 => Q (some (.int x6)) w5))) ∧ (a3 = 2 → (zIs w1 r2 5 ∧ zCallI X d MX5_freeOf [.ref r2, .int a2] w1 (fun x8 w7 => Q (some (.int x8)) w7))) ∧ (a3 = 3 → (zIs w1 r2 5 ∧ zCallI X d MX5_coveredBy [.ref r2, .int a2] w1 (fun x10 w9 => Q (some (.int x10)) w9))) ∧ (a3 = 4 → (zIs w1 r2 5 ∧ zCallI X d MX5_coversOf [.ref r2, .int a2] w1 (fun x12 w11 => Q (some (.int x12)) w11))) ∧ (¬ (0 ≤ a3 ∧ a3 < 5) → (Q (some (.int (-2))) w1)))) :
    zRn X d kc ks MX11_of 0 [some (.ref p0), some (.int a1), some (.int a2), some (.int a3), none] [] w Q := by
  refine z_aload_n p0 dX11_of_0 rfl rfl ?_
  refine z_iload_n a1 dX11_of_1 rfl rfl ?_
  refine z_iload_n a2 dX11_of_2 rfl rfl ?_
  refine zq_VO (N := MX11_orderWith) (As := [.int a1, .int a2]) m_X11_156 dX11_of_3 rfl rfl (Nat.le_of_ble_eq_true rfl) h (fun w1 h => ?_) (fun r2 w1 h => ?_)
  · refine z_nstore (i := 4) dX11_of_6 (by decide) rfl ?_
    refine z_nload dX11_of_8 rfl ?_
    refine z_ifnonnullN dX11_of_10 ?_
    refine z_bipush (-2) dX11_of_13 rfl ?_
    exact z_ireturn .int dX11_of_15 rfl rfl h
  · refine z_astore (i := 4) dX11_of_6 (by decide) rfl ?_
    refine z_aload r2 dX11_of_8 rfl ?_
    refine z_ifnonnull 16 dX11_of_10 rfl ?_
    refine z_iload_n a3 dX11_of_16 rfl rfl ?_
    rcases pk_ix a3 (n := 5) (by decide) with hx | hx | ⟨j, hj, hx⟩
    · refine z_tableOut 87 dX11_of_17 (zsw_lo hx) rfl ?_
      have h := h.2.2.2.2.2 (fun q => absurd hx (Int32.not_lt.mpr q.1))
      refine z_bipush (-2) dX11_of_87 rfl ?_
      exact z_ireturn .int dX11_of_89 rfl rfl h
    · refine z_tableOut 87 dX11_of_17 (zsw_hi (n := 5) (by decide) rfl hx) rfl ?_
      have h := h.2.2.2.2.2 (fun q => absurd q.2 (Int32.not_lt.mpr hx))
      refine z_bipush (-2) dX11_of_87 rfl ?_
      exact z_ireturn .int dX11_of_89 rfl rfl h
    · rcases (show j = 0 ∨ j = 1 ∨ j = 2 ∨ j = 3 ∨ j = 4 by omega) with rfl | rfl | rfl | rfl | rfl
      · refine z_tableIn 52 dX11_of_17 (by rw [hx]; decide) (by rw [hx]; decide) (by rw [hx]; rfl) rfl ?_
        have h := h.1 hx
        refine z_aload r2 dX11_of_52 rfl ?_
        refine z_iload_n a2 dX11_of_54 rfl rfl ?_
        refine zq_VI (N := MX5_belowOf) (As := [.int a2]) m_X11_160 dX11_of_55 rfl rfl (Nat.le_of_ble_eq_true rfl) h (fun x4 w3 h => ?_)
        exact z_ireturn .int dX11_of_58 rfl rfl h
      · refine z_tableIn 59 dX11_of_17 (by rw [hx]; decide) (by rw [hx]; decide) (by rw [hx]; rfl) rfl ?_
        have h := h.2.1 hx
        refine z_aload r2 dX11_of_59 rfl ?_
        refine z_iload_n a2 dX11_of_61 rfl rfl ?_
        refine zq_VI (N := MX5_aboveOf) (As := [.int a2]) m_X11_163 dX11_of_62 rfl rfl (Nat.le_of_ble_eq_true rfl) h (fun x6 w5 h => ?_)
        exact z_ireturn .int dX11_of_65 rfl rfl h
      · refine z_tableIn 66 dX11_of_17 (by rw [hx]; decide) (by rw [hx]; decide) (by rw [hx]; rfl) rfl ?_
        have h := h.2.2.1 hx
        refine z_aload r2 dX11_of_66 rfl ?_
        refine z_iload_n a2 dX11_of_68 rfl rfl ?_
        refine zq_VI (N := MX5_freeOf) (As := [.int a2]) m_X11_166 dX11_of_69 rfl rfl (Nat.le_of_ble_eq_true rfl) h (fun x8 w7 h => ?_)
        exact z_ireturn .int dX11_of_72 rfl rfl h
      · refine z_tableIn 73 dX11_of_17 (by rw [hx]; decide) (by rw [hx]; decide) (by rw [hx]; rfl) rfl ?_
        have h := h.2.2.2.1 hx
        refine z_aload r2 dX11_of_73 rfl ?_
        refine z_iload_n a2 dX11_of_75 rfl rfl ?_
        refine zq_VI (N := MX5_coveredBy) (As := [.int a2]) m_X11_169 dX11_of_76 rfl rfl (Nat.le_of_ble_eq_true rfl) h (fun x10 w9 h => ?_)
        exact z_ireturn .int dX11_of_79 rfl rfl h
      · refine z_tableIn 80 dX11_of_17 (by rw [hx]; decide) (by rw [hx]; decide) (by rw [hx]; rfl) rfl ?_
        have h := h.2.2.2.2.1 hx
        refine z_aload r2 dX11_of_80 rfl ?_
        refine z_iload_n a2 dX11_of_82 rfl rfl ?_
        refine zq_VI (N := MX5_coversOf) (As := [.int a2]) m_X11_172 dX11_of_83 rfl rfl (Nat.le_of_ble_eq_true rfl) h (fun x12 w11 h => ?_)
        exact z_ireturn .int dX11_of_86 rfl rfl h
theorem eX11_of {X : zX} {d kc ks : Nat} {w : zW} {Q : Option Value → zW → Prop} (p0 : Nat) (a1 : Int32) (a2 : Int32) (a3 : Int32) (h : zRn X d kc ks MX11_of 0 [some (.ref p0), some (.int a1), some (.int a2), some (.int a3), none] [] w Q) : zEv X d kc ks MX11_of [.ref p0, .int a1, .int a2, .int a3] w Q :=
  zEv.of (by decide) (Nat.le_of_ble_eq_true rfl) (Or.inr (by simp [Value.category])) h
set_option maxRecDepth 100000 in
set_option maxHeartbeats 4000000 in
theorem bX11_orderWith_0 {X : zX} {d kc ks : Nat} {w : zW} {Q : Option Value → zW → Prop} (p0 : Nat) (a1 : Int32) (a2 : Int32)
    (h : zIs w p0 10 ∧ zCallO X d MX11_orderIn [.ref p0, .int a1] w (fun w1 => zRn X d kc ks MX11_orderWith 18 [none, none, none, none] [] w1 Q) (fun r2 w1 => zIs w1 r2 5 ∧ zCallI X d MX5_has [.ref r2, .int a2] w1 (fun x4 w3 => if x4 = 0 then (zRn X d kc ks MX11_orderWith 18 [none, none, none, none] [] w3 Q) else (Q (some (.ref r2)) w3)))) :
    zRn X d kc ks MX11_orderWith 0 [some (.ref p0), some (.int a1), some (.int a2), none] [] w Q := by
  refine z_aload_n p0 dX11_orderWith_0 rfl rfl ?_
  refine z_iload_n a1 dX11_orderWith_1 rfl rfl ?_
  refine zq_VO (N := MX11_orderIn) (As := [.int a1]) m_X11_117 dX11_orderWith_2 rfl rfl (Nat.le_of_ble_eq_true rfl) h (fun w1 h => ?_) (fun r2 w1 h => ?_)
  · refine z_nstore_n (i := 3) dX11_orderWith_5 rfl (by decide) rfl ?_
    refine z_nload_n dX11_orderWith_6 rfl rfl ?_
    refine z_ifnullN 18 dX11_orderWith_7 rfl ?_
    exact zRn.weak h (zLe_of [false, false, false, false] (And.intro rfl (And.intro rfl (And.intro rfl (And.intro rfl (trivial))))))
  · refine z_astore_n (i := 3) dX11_orderWith_5 rfl (by decide) rfl ?_
    refine z_aload_n r2 dX11_orderWith_6 rfl rfl ?_
    refine z_ifnull dX11_orderWith_7 ?_
    refine z_aload_n r2 dX11_orderWith_10 rfl rfl ?_
    refine z_iload_n a2 dX11_orderWith_11 rfl rfl ?_
    refine zq_VI (N := MX5_has) (As := [.int a2]) m_X11_231 dX11_orderWith_12 rfl rfl (Nat.le_of_ble_eq_true rfl) h (fun x4 w3 h => ?_)
    refine z_if_ne 22 dX11_orderWith_15 rfl (fun hc => ?_) (fun hc => ?_)
    · rw [if_neg hc] at h
      refine z_aload_n r2 dX11_orderWith_22 rfl rfl ?_
      exact z_areturn _ dX11_orderWith_23 rfl h
    · rw [if_pos hc] at h
      exact zRn.weak h (zLe_of [false, false, false, false] (And.intro rfl (And.intro rfl (And.intro rfl (And.intro rfl (trivial))))))
set_option maxRecDepth 100000 in
set_option maxHeartbeats 4000000 in
theorem bX11_orderWith_18 {X : zX} {d kc ks : Nat} {w : zW} {Q : Option Value → zW → Prop}
    (h : Q (some .null) w) :
    zRn X d kc ks MX11_orderWith 18 [none, none, none, none] [] w Q := by
  refine z_null dX11_orderWith_18 ?_
  refine z_goto 23 dX11_orderWith_19 rfl ?_
  exact z_nreturn _ dX11_orderWith_23 rfl h
theorem eX11_orderWith {X : zX} {d kc ks : Nat} {w : zW} {Q : Option Value → zW → Prop} (p0 : Nat) (a1 : Int32) (a2 : Int32) (h : zRn X d kc ks MX11_orderWith 0 [some (.ref p0), some (.int a1), some (.int a2), none] [] w Q) : zEv X d kc ks MX11_orderWith [.ref p0, .int a1, .int a2] w Q :=
  zEv.of (by decide) (Nat.le_of_ble_eq_true rfl) (Or.inr (by simp [Value.category])) h
set_option maxRecDepth 100000 in
set_option maxHeartbeats 4000000 in
theorem bX11_is_0 {X : zX} {d kc ks : Nat} {w : zW} {Q : Option Value → zW → Prop} (p0 : Nat) (a1 : Int32) (a2 : Int32)
    (h : zIs w p0 10 ∧ zCallO X d MX11_orderIn [.ref p0, .int a1] w (fun w1 => Q (some (.int (-2))) w1) (fun r2 w1 => (a2 = 0 → (zIs w1 r2 5 ∧ zCallI X d MX5_freeTwos [.ref r2] w1 (fun x4 w3 => if x4 = 0 then (zRn X d kc ks MX11_is 68 [none, none, none, none] [.int 1] w3 Q) else (zRn X d kc ks MX11_is 68 [none, none, none, none] [.int 0] w3 Q)))) ∧ (a2 = 1 → (zIs w1 r2 5 ∧ zCallI X d MX5_twos [.ref r2] w1 (fun x6 w5 => if x6 = 0 then (zRn X d kc ks MX11_is 84 [none, none, none, none] [.int 1] w5 Q) else (zRn X d kc ks MX11_is 84 [none, none, none, none] [.int 0] w5 Q)))) ∧ (a2 = 2 → (zCallI X d MX10_hasN [.ref r2] w1 (fun x8 w7 => if x8 = 0 then (zRn X d kc ks MX11_is 100 [none, none, none, none] [.int 1] w7 Q) else (zRn X d kc ks MX11_is 100 [none, none, none, none] [.int 0] w7 Q)))) ∧ (a2 = 3 → (zCallI X d MX10_hasTwoAndTwo [.ref r2] w1 (fun x10 w9 => if x10 = 0 then (zRn X d kc ks MX11_is 116 [none, none, none, none] [.int 1] w9 Q) else (zRn X d kc ks MX11_is 116 [none, none, none, none] [.int 0] w9 Q)))) ∧ (a2 = 4 → (zCallI X d MX10_hasThreeAndOne [.ref r2] w1 (fun x12 w11 => if x12 = 0 then (zCallI X d MX10_hasTwoAndTwo [.ref r2] w11 (fun x14 w13 => if x14 = 0 then (zRn X d kc ks MX11_is 139 [none, none, none, none] [.int 1] w13 Q) else (zRn X d kc ks MX11_is 138 [none, none, none, none] [] w13 Q))) else (zRn X d kc ks MX11_is 138 [none, none, none, none] [] w11 Q)))) ∧ (a2 = 5 → (zCallI X d MX10_isLattice [.ref r2] w1 (fun x16 w15 => zCallI X d MX11_bit [.int x16] w15 (fun x18 w17 => Q (some (.int x18)) w17)))) ∧ (a2 = 6 → (∃ r19, zfR w1 p0 10 6 = some r19 ∧ (zIs w1 r19 1 ∧ zCallI X d MX1_isLevelled [.ref r19, .ref r2] w1 (fun x21 w20 => zCallI X d MX11_bit [.int x21] w20 (fun x23 w22 => Q (some (.int x23)) w22))))) ∧ (¬ (0 ≤ a2 ∧ a2 < 7) → (Q (some (.int (-2))) w1)))) :
    zRn X d kc ks MX11_is 0 [some (.ref p0), some (.int a1), some (.int a2), none] [] w Q := by
  refine z_aload_n p0 dX11_is_0 rfl rfl ?_
  refine z_iload_n a1 dX11_is_1 rfl rfl ?_
  refine zq_VO (N := MX11_orderIn) (As := [.int a1]) m_X11_117 dX11_is_2 rfl rfl (Nat.le_of_ble_eq_true rfl) h (fun w1 h => ?_) (fun r2 w1 h => ?_)
  · refine z_nstore_n (i := 3) dX11_is_5 rfl (by decide) rfl ?_
    refine z_nload_n dX11_is_6 rfl rfl ?_
    refine z_ifnonnullN dX11_is_7 ?_
    refine z_bipush (-2) dX11_is_10 rfl ?_
    exact z_ireturn .int dX11_is_12 rfl rfl h
  · refine z_astore_n (i := 3) dX11_is_5 rfl (by decide) rfl ?_
    refine z_aload_n r2 dX11_is_6 rfl rfl ?_
    refine z_ifnonnull 13 dX11_is_7 rfl ?_
    refine z_iload_n a2 dX11_is_13 rfl rfl ?_
    rcases pk_ix a2 (n := 7) (by decide) with hx | hx | ⟨j, hj, hx⟩
    · refine z_tableOut 163 dX11_is_14 (zsw_lo hx) rfl ?_
      have h := h.2.2.2.2.2.2.2 (fun q => absurd hx (Int32.not_lt.mpr q.1))
      refine z_bipush (-2) dX11_is_163 rfl ?_
      exact z_ireturn .int dX11_is_165 rfl rfl h
    · refine z_tableOut 163 dX11_is_14 (zsw_hi (n := 7) (by decide) rfl hx) rfl ?_
      have h := h.2.2.2.2.2.2.2 (fun q => absurd q.2 (Int32.not_lt.mpr hx))
      refine z_bipush (-2) dX11_is_163 rfl ?_
      exact z_ireturn .int dX11_is_165 rfl rfl h
    · rcases (show j = 0 ∨ j = 1 ∨ j = 2 ∨ j = 3 ∨ j = 4 ∨ j = 5 ∨ j = 6 by omega) with rfl | rfl | rfl | rfl | rfl | rfl | rfl
      · refine z_tableIn 56 dX11_is_14 (by rw [hx]; decide) (by rw [hx]; decide) (by rw [hx]; rfl) rfl ?_
        have h := h.1 hx
        refine z_aload_n r2 dX11_is_56 rfl rfl ?_
        refine zq_VI (N := MX5_freeTwos) (As := []) m_X11_140 dX11_is_57 rfl rfl (Nat.le_of_ble_eq_true rfl) h (fun x4 w3 h => ?_)
        refine z_if_ne 67 dX11_is_60 rfl (fun hc => ?_) (fun hc => ?_)
        · rw [if_neg hc] at h
          refine z_iconst 0 dX11_is_67 rfl ?_
          exact zRn.weak h (zLe_of [false, false, false, false] (And.intro rfl (And.intro rfl (And.intro rfl (And.intro rfl (trivial))))))
        · rw [if_pos hc] at h
          refine z_iconst 1 dX11_is_63 rfl ?_
          refine z_goto 68 dX11_is_64 rfl ?_
          exact zRn.weak h (zLe_of [false, false, false, false] (And.intro rfl (And.intro rfl (And.intro rfl (And.intro rfl (trivial))))))
      · refine z_tableIn 72 dX11_is_14 (by rw [hx]; decide) (by rw [hx]; decide) (by rw [hx]; rfl) rfl ?_
        have h := h.2.1 hx
        refine z_aload_n r2 dX11_is_72 rfl rfl ?_
        refine zq_VI (N := MX5_twos) (As := []) m_X11_104 dX11_is_73 rfl rfl (Nat.le_of_ble_eq_true rfl) h (fun x6 w5 h => ?_)
        refine z_if_ne 83 dX11_is_76 rfl (fun hc => ?_) (fun hc => ?_)
        · rw [if_neg hc] at h
          refine z_iconst 0 dX11_is_83 rfl ?_
          exact zRn.weak h (zLe_of [false, false, false, false] (And.intro rfl (And.intro rfl (And.intro rfl (And.intro rfl (trivial))))))
        · rw [if_pos hc] at h
          refine z_iconst 1 dX11_is_79 rfl ?_
          refine z_goto 84 dX11_is_80 rfl ?_
          exact zRn.weak h (zLe_of [false, false, false, false] (And.intro rfl (And.intro rfl (And.intro rfl (And.intro rfl (trivial))))))
      · refine z_tableIn 88 dX11_is_14 (by rw [hx]; decide) (by rw [hx]; decide) (by rw [hx]; rfl) rfl ?_
        have h := h.2.2.1 hx
        refine z_aload_n r2 dX11_is_88 rfl rfl ?_
        refine zq_SI (N := MX10_hasN) (As := [.ref r2]) m_X11_179 dX11_is_89 rfl rfl (Nat.le_of_ble_eq_true rfl) h (fun x8 w7 h => ?_)
        refine z_if_ne 99 dX11_is_92 rfl (fun hc => ?_) (fun hc => ?_)
        · rw [if_neg hc] at h
          refine z_iconst 0 dX11_is_99 rfl ?_
          exact zRn.weak h (zLe_of [false, false, false, false] (And.intro rfl (And.intro rfl (And.intro rfl (And.intro rfl (trivial))))))
        · rw [if_pos hc] at h
          refine z_iconst 1 dX11_is_95 rfl ?_
          refine z_goto 100 dX11_is_96 rfl ?_
          exact zRn.weak h (zLe_of [false, false, false, false] (And.intro rfl (And.intro rfl (And.intro rfl (And.intro rfl (trivial))))))
      · refine z_tableIn 104 dX11_is_14 (by rw [hx]; decide) (by rw [hx]; decide) (by rw [hx]; rfl) rfl ?_
        have h := h.2.2.2.1 hx
        refine z_aload_n r2 dX11_is_104 rfl rfl ?_
        refine zq_SI (N := MX10_hasTwoAndTwo) (As := [.ref r2]) m_X11_182 dX11_is_105 rfl rfl (Nat.le_of_ble_eq_true rfl) h (fun x10 w9 h => ?_)
        refine z_if_ne 115 dX11_is_108 rfl (fun hc => ?_) (fun hc => ?_)
        · rw [if_neg hc] at h
          refine z_iconst 0 dX11_is_115 rfl ?_
          exact zRn.weak h (zLe_of [false, false, false, false] (And.intro rfl (And.intro rfl (And.intro rfl (And.intro rfl (trivial))))))
        · rw [if_pos hc] at h
          refine z_iconst 1 dX11_is_111 rfl ?_
          refine z_goto 116 dX11_is_112 rfl ?_
          exact zRn.weak h (zLe_of [false, false, false, false] (And.intro rfl (And.intro rfl (And.intro rfl (And.intro rfl (trivial))))))
      · refine z_tableIn 120 dX11_is_14 (by rw [hx]; decide) (by rw [hx]; decide) (by rw [hx]; rfl) rfl ?_
        have h := h.2.2.2.2.1 hx
        refine z_aload_n r2 dX11_is_120 rfl rfl ?_
        refine zq_SI (N := MX10_hasThreeAndOne) (As := [.ref r2]) m_X11_185 dX11_is_121 rfl rfl (Nat.le_of_ble_eq_true rfl) h (fun x12 w11 h => ?_)
        refine z_if_ne 138 dX11_is_124 rfl (fun hc => ?_) (fun hc => ?_)
        · rw [if_neg hc] at h
          exact zRn.weak h (zLe_of [false, false, false, false] (And.intro rfl (And.intro rfl (And.intro rfl (And.intro rfl (trivial))))))
        · rw [if_pos hc] at h
          refine z_aload_n r2 dX11_is_127 rfl rfl ?_
          refine zq_SI (N := MX10_hasTwoAndTwo) (As := [.ref r2]) m_X11_182 dX11_is_128 rfl rfl (Nat.le_of_ble_eq_true rfl) h (fun x14 w13 h => ?_)
          refine z_if_ne 138 dX11_is_131 rfl (fun hc => ?_) (fun hc => ?_)
          · rw [if_neg hc] at h
            exact zRn.weak h (zLe_of [false, false, false, false] (And.intro rfl (And.intro rfl (And.intro rfl (And.intro rfl (trivial))))))
          · rw [if_pos hc] at h
            refine z_iconst 1 dX11_is_134 rfl ?_
            refine z_goto 139 dX11_is_135 rfl ?_
            exact zRn.weak h (zLe_of [false, false, false, false] (And.intro rfl (And.intro rfl (And.intro rfl (And.intro rfl (trivial))))))
      · refine z_tableIn 143 dX11_is_14 (by rw [hx]; decide) (by rw [hx]; decide) (by rw [hx]; rfl) rfl ?_
        have h := h.2.2.2.2.2.1 hx
        refine z_aload_n r2 dX11_is_143 rfl rfl ?_
        refine zq_SI (N := MX10_isLattice) (As := [.ref r2]) m_X11_188 dX11_is_144 rfl rfl (Nat.le_of_ble_eq_true rfl) h (fun x16 w15 h => ?_)
        refine zq_SI (N := MX11_bit) (As := [.int x16]) m_X11_175 dX11_is_147 rfl rfl (Nat.le_of_ble_eq_true rfl) h (fun x18 w17 h => ?_)
        exact z_ireturn .int dX11_is_150 rfl rfl h
      · refine z_tableIn 151 dX11_is_14 (by rw [hx]; decide) (by rw [hx]; decide) (by rw [hx]; rfl) rfl ?_
        have h := h.2.2.2.2.2.2.1 hx
        refine z_aload_n p0 dX11_is_151 rfl rfl ?_
        obtain ⟨r19, e, h⟩ := h
        refine zq_fR f_X11_51 dX11_is_152 e ?_
        refine z_aload_n r2 dX11_is_155 rfl rfl ?_
        refine zq_VI (N := MX1_isLevelled) (As := [.ref r2]) m_X11_191 dX11_is_156 rfl rfl (Nat.le_of_ble_eq_true rfl) h (fun x21 w20 h => ?_)
        refine zq_SI (N := MX11_bit) (As := [.int x21]) m_X11_175 dX11_is_159 rfl rfl (Nat.le_of_ble_eq_true rfl) h (fun x23 w22 h => ?_)
        exact z_ireturn .int dX11_is_162 rfl rfl h
set_option maxRecDepth 100000 in
set_option maxHeartbeats 4000000 in
theorem bX11_is_68 {X : zX} {d kc ks : Nat} {w : zW} {Q : Option Value → zW → Prop} (u0 : Int32)
    (h : zCallI X d MX11_bit [.int u0] w (fun x2 w1 => Q (some (.int x2)) w1)) :
    zRn X d kc ks MX11_is 68 [none, none, none, none] [.int u0] w Q := by
  refine zq_SI (N := MX11_bit) (As := [.int u0]) m_X11_175 dX11_is_68 rfl rfl (Nat.le_of_ble_eq_true rfl) h (fun x2 w1 h => ?_)
  exact z_ireturn .int dX11_is_71 rfl rfl h
set_option maxRecDepth 100000 in
set_option maxHeartbeats 4000000 in
theorem bX11_is_84 {X : zX} {d kc ks : Nat} {w : zW} {Q : Option Value → zW → Prop} (u0 : Int32)
    (h : zCallI X d MX11_bit [.int u0] w (fun x2 w1 => Q (some (.int x2)) w1)) :
    zRn X d kc ks MX11_is 84 [none, none, none, none] [.int u0] w Q := by
  refine zq_SI (N := MX11_bit) (As := [.int u0]) m_X11_175 dX11_is_84 rfl rfl (Nat.le_of_ble_eq_true rfl) h (fun x2 w1 h => ?_)
  exact z_ireturn .int dX11_is_87 rfl rfl h
set_option maxRecDepth 100000 in
set_option maxHeartbeats 4000000 in
theorem bX11_is_100 {X : zX} {d kc ks : Nat} {w : zW} {Q : Option Value → zW → Prop} (u0 : Int32)
    (h : zCallI X d MX11_bit [.int u0] w (fun x2 w1 => Q (some (.int x2)) w1)) :
    zRn X d kc ks MX11_is 100 [none, none, none, none] [.int u0] w Q := by
  refine zq_SI (N := MX11_bit) (As := [.int u0]) m_X11_175 dX11_is_100 rfl rfl (Nat.le_of_ble_eq_true rfl) h (fun x2 w1 h => ?_)
  exact z_ireturn .int dX11_is_103 rfl rfl h
set_option maxRecDepth 100000 in
set_option maxHeartbeats 4000000 in
theorem bX11_is_116 {X : zX} {d kc ks : Nat} {w : zW} {Q : Option Value → zW → Prop} (u0 : Int32)
    (h : zCallI X d MX11_bit [.int u0] w (fun x2 w1 => Q (some (.int x2)) w1)) :
    zRn X d kc ks MX11_is 116 [none, none, none, none] [.int u0] w Q := by
  refine zq_SI (N := MX11_bit) (As := [.int u0]) m_X11_175 dX11_is_116 rfl rfl (Nat.le_of_ble_eq_true rfl) h (fun x2 w1 h => ?_)
  exact z_ireturn .int dX11_is_119 rfl rfl h
set_option maxRecDepth 100000 in
set_option maxHeartbeats 4000000 in
theorem bX11_is_138 {X : zX} {d kc ks : Nat} {w : zW} {Q : Option Value → zW → Prop}
    (h : zRn X d kc ks MX11_is 139 [none, none, none, none] [.int 0] w Q) :
    zRn X d kc ks MX11_is 138 [none, none, none, none] [] w Q := by
  refine z_iconst 0 dX11_is_138 rfl ?_
  exact h
set_option maxRecDepth 100000 in
set_option maxHeartbeats 4000000 in
theorem bX11_is_139 {X : zX} {d kc ks : Nat} {w : zW} {Q : Option Value → zW → Prop} (u0 : Int32)
    (h : zCallI X d MX11_bit [.int u0] w (fun x2 w1 => Q (some (.int x2)) w1)) :
    zRn X d kc ks MX11_is 139 [none, none, none, none] [.int u0] w Q := by
  refine zq_SI (N := MX11_bit) (As := [.int u0]) m_X11_175 dX11_is_139 rfl rfl (Nat.le_of_ble_eq_true rfl) h (fun x2 w1 h => ?_)
  exact z_ireturn .int dX11_is_142 rfl rfl h
theorem eX11_is {X : zX} {d kc ks : Nat} {w : zW} {Q : Option Value → zW → Prop} (p0 : Nat) (a1 : Int32) (a2 : Int32) (h : zRn X d kc ks MX11_is 0 [some (.ref p0), some (.int a1), some (.int a2), none] [] w Q) : zEv X d kc ks MX11_is [.ref p0, .int a1, .int a2] w Q :=
  zEv.of (by decide) (Nat.le_of_ble_eq_true rfl) (Or.inr (by simp [Value.category])) h
set_option maxRecDepth 100000 in
set_option maxHeartbeats 4000000 in
theorem bX11_bit_0 {X : zX} {d kc ks : Nat} {w : zW} {Q : Option Value → zW → Prop} (a0 : Int32)
    (h : if a0 = 0 then (Q (some (.int 0)) w) else (Q (some (.int 1)) w)) :
    zRn X d kc ks MX11_bit 0 [some (.int a0)] [] w Q := by
  refine z_iload_n a0 dX11_bit_0 rfl rfl ?_
  refine z_if_eq 8 dX11_bit_1 rfl (fun hc => ?_) (fun hc => ?_)
  · rw [if_pos hc] at h
    refine z_iconst 0 dX11_bit_8 rfl ?_
    exact z_ireturn .int dX11_bit_9 rfl rfl h
  · rw [if_neg hc] at h
    refine z_iconst 1 dX11_bit_4 rfl ?_
    refine z_goto 9 dX11_bit_5 rfl ?_
    exact z_ireturn .int dX11_bit_9 rfl rfl h
theorem eX11_bit {X : zX} {d kc ks : Nat} {w : zW} {Q : Option Value → zW → Prop} (a0 : Int32) (h : zRn X d kc ks MX11_bit 0 [some (.int a0)] [] w Q) : zEv X d kc ks MX11_bit [.int a0] w Q :=
  zEv.of (by decide) (Nat.le_of_ble_eq_true rfl) (Or.inr (by simp [Value.category])) h
set_option maxRecDepth 100000 in
set_option maxHeartbeats 4000000 in
theorem bX11_chain_0 {X : zX} {d kc ks : Nat} {w : zW} {Q : Option Value → zW → Prop} (p0 : Nat) (a1 : Int32) (a2 : Int32)
    (h : zIs w p0 10 ∧ zCallO X d MX11_orderIn [.ref p0, .int a1] w (fun w1 => Q (some (.int (-2))) w1) (fun r2 w1 => if 0 ≤ a2 then (∃ r3, zfR w1 p0 10 6 = some r3 ∧ (zIs w1 r3 1 ∧ zCallI X d MX1_longestAt [.ref r3, .ref r2, .int a2] w1 (fun x5 w4 => Q (some (.int x5)) w4))) else (Q (some (.int (-2))) w1))) :
    zRn X d kc ks MX11_chain 0 [some (.ref p0), some (.int a1), some (.int a2), none] [] w Q := by
  refine z_aload_n p0 dX11_chain_0 rfl rfl ?_
  refine z_iload_n a1 dX11_chain_1 rfl rfl ?_
  refine zq_VO (N := MX11_orderIn) (As := [.int a1]) m_X11_117 dX11_chain_2 rfl rfl (Nat.le_of_ble_eq_true rfl) h (fun w1 h => ?_) (fun r2 w1 h => ?_)
  · refine z_nstore_n (i := 3) dX11_chain_5 rfl (by decide) rfl ?_
    refine z_nload_n dX11_chain_6 rfl rfl ?_
    refine z_ifnullN 14 dX11_chain_7 rfl ?_
    refine z_bipush (-2) dX11_chain_14 rfl ?_
    exact z_ireturn .int dX11_chain_16 rfl rfl h
  · refine z_astore_n (i := 3) dX11_chain_5 rfl (by decide) rfl ?_
    refine z_aload_n r2 dX11_chain_6 rfl rfl ?_
    refine z_ifnull dX11_chain_7 ?_
    refine z_iload_n a2 dX11_chain_10 rfl rfl ?_
    refine z_if_ge 17 dX11_chain_11 rfl (fun hc => ?_) (fun hc => ?_)
    · rw [if_pos hc] at h
      refine z_aload_n p0 dX11_chain_17 rfl rfl ?_
      obtain ⟨r3, e, h⟩ := h
      refine zq_fR f_X11_51 dX11_chain_18 e ?_
      refine z_aload_n r2 dX11_chain_21 rfl rfl ?_
      refine z_iload_n a2 dX11_chain_22 rfl rfl ?_
      refine zq_VI (N := MX1_longestAt) (As := [.ref r2, .int a2]) m_X11_194 dX11_chain_23 rfl rfl (Nat.le_of_ble_eq_true rfl) h (fun x5 w4 h => ?_)
      exact z_ireturn .int dX11_chain_26 rfl rfl h
    · rw [if_neg hc] at h
      refine z_bipush (-2) dX11_chain_14 rfl ?_
      exact z_ireturn .int dX11_chain_16 rfl rfl h
theorem eX11_chain {X : zX} {d kc ks : Nat} {w : zW} {Q : Option Value → zW → Prop} (p0 : Nat) (a1 : Int32) (a2 : Int32) (h : zRn X d kc ks MX11_chain 0 [some (.ref p0), some (.int a1), some (.int a2), none] [] w Q) : zEv X d kc ks MX11_chain [.ref p0, .int a1, .int a2] w Q :=
  zEv.of (by decide) (Nat.le_of_ble_eq_true rfl) (Or.inr (by simp [Value.category])) h
set_option maxRecDepth 100000 in
set_option maxHeartbeats 4000000 in
theorem bX11_anti_0 {X : zX} {d kc ks : Nat} {w : zW} {Q : Option Value → zW → Prop} (p0 : Nat) (a1 : Int32)
    (h : zIs w p0 10 ∧ zCallO X d MX11_orderIn [.ref p0, .int a1] w (fun w1 => Q (some (.int (-2))) w1) (fun r2 w1 => zCallI X d MX10_widest [.ref r2] w1 (fun x4 w3 => Q (some (.int x4)) w3))) :
    zRn X d kc ks MX11_anti 0 [some (.ref p0), some (.int a1), none] [] w Q := by
  refine z_aload_n p0 dX11_anti_0 rfl rfl ?_
  refine z_iload_n a1 dX11_anti_1 rfl rfl ?_
  refine zq_VO (N := MX11_orderIn) (As := [.int a1]) m_X11_117 dX11_anti_2 rfl rfl (Nat.le_of_ble_eq_true rfl) h (fun w1 h => ?_) (fun r2 w1 h => ?_)
  · refine z_nstore_n (i := 2) dX11_anti_5 rfl (by decide) rfl ?_
    refine z_nload_n dX11_anti_6 rfl rfl ?_
    refine z_ifnonnullN dX11_anti_7 ?_
    refine z_bipush (-2) dX11_anti_10 rfl ?_
    refine z_goto 19 dX11_anti_12 rfl ?_
    exact z_ireturn .int dX11_anti_19 rfl rfl h
  · refine z_astore_n (i := 2) dX11_anti_5 rfl (by decide) rfl ?_
    refine z_aload_n r2 dX11_anti_6 rfl rfl ?_
    refine z_ifnonnull 15 dX11_anti_7 rfl ?_
    refine z_aload_n r2 dX11_anti_15 rfl rfl ?_
    refine zq_SI (N := MX10_widest) (As := [.ref r2]) m_X11_129 dX11_anti_16 rfl rfl (Nat.le_of_ble_eq_true rfl) h (fun x4 w3 h => ?_)
    exact z_ireturn .int dX11_anti_19 rfl rfl h
theorem eX11_anti {X : zX} {d kc ks : Nat} {w : zW} {Q : Option Value → zW → Prop} (p0 : Nat) (a1 : Int32) (h : zRn X d kc ks MX11_anti 0 [some (.ref p0), some (.int a1), none] [] w Q) : zEv X d kc ks MX11_anti [.ref p0, .int a1] w Q :=
  zEv.of (by decide) (Nat.le_of_ble_eq_true rfl) (Or.inr (by simp [Value.category])) h
set_option maxRecDepth 100000 in
set_option maxHeartbeats 4000000 in
theorem bX11_part_0 {X : zX} {d kc ks : Nat} {w : zW} {Q : Option Value → zW → Prop} (p0 : Nat) (a1 : Int32) (a2 : Int32)
    (h : zIs w p0 10 ∧ zCallO X d MX11_orderWith [.ref p0, .int a1, .int a2] w (fun w1 => Q (some (.int (-2))) w1) (fun r2 w1 => ∃ r3, zfR w1 p0 10 6 = some r3 ∧ (zIs w1 r3 1 ∧ zCallI X d MX1_chainOf [.ref r3, .ref r2, .int a2] w1 (fun x5 w4 => Q (some (.int x5)) w4)))) :
    zRn X d kc ks MX11_part 0 [some (.ref p0), some (.int a1), some (.int a2), none] [] w Q := by
  refine z_aload_n p0 dX11_part_0 rfl rfl ?_
  refine z_iload_n a1 dX11_part_1 rfl rfl ?_
  refine z_iload_n a2 dX11_part_2 rfl rfl ?_
  refine zq_VO (N := MX11_orderWith) (As := [.int a1, .int a2]) m_X11_156 dX11_part_3 rfl rfl (Nat.le_of_ble_eq_true rfl) h (fun w1 h => ?_) (fun r2 w1 h => ?_)
  · refine z_nstore_n (i := 3) dX11_part_6 rfl (by decide) rfl ?_
    refine z_nload_n dX11_part_7 rfl rfl ?_
    refine z_ifnonnullN dX11_part_8 ?_
    refine z_bipush (-2) dX11_part_11 rfl ?_
    refine z_goto 25 dX11_part_13 rfl ?_
    exact z_ireturn .int dX11_part_25 rfl rfl h
  · refine z_astore_n (i := 3) dX11_part_6 rfl (by decide) rfl ?_
    refine z_aload_n r2 dX11_part_7 rfl rfl ?_
    refine z_ifnonnull 16 dX11_part_8 rfl ?_
    refine z_aload_n p0 dX11_part_16 rfl rfl ?_
    obtain ⟨r3, e, h⟩ := h
    refine zq_fR f_X11_51 dX11_part_17 e ?_
    refine z_aload_n r2 dX11_part_20 rfl rfl ?_
    refine z_iload_n a2 dX11_part_21 rfl rfl ?_
    refine zq_VI (N := MX1_chainOf) (As := [.ref r2, .int a2]) m_X11_198 dX11_part_22 rfl rfl (Nat.le_of_ble_eq_true rfl) h (fun x5 w4 h => ?_)
    exact z_ireturn .int dX11_part_25 rfl rfl h
theorem eX11_part {X : zX} {d kc ks : Nat} {w : zW} {Q : Option Value → zW → Prop} (p0 : Nat) (a1 : Int32) (a2 : Int32) (h : zRn X d kc ks MX11_part 0 [some (.ref p0), some (.int a1), some (.int a2), none] [] w Q) : zEv X d kc ks MX11_part [.ref p0, .int a1, .int a2] w Q :=
  zEv.of (by decide) (Nat.le_of_ble_eq_true rfl) (Or.inr (by simp [Value.category])) h
set_option maxRecDepth 100000 in
set_option maxHeartbeats 4000000 in
theorem bX11_lines_0 {X : zX} {d kc ks : Nat} {w : zW} {Q : Option Value → zW → Prop} (p0 : Nat) (a1 : Int32)
    (h : zIs w p0 10 ∧ zCallO X d MX11_orderIn [.ref p0, .int a1] w (fun w1 => Q (some (.int (-2))) w1) (fun r2 w1 => zIs w1 p0 10 ∧ zCallR X d MX11_linesOf [.ref p0, .ref r2] w1 (fun r4 w3 => zIs w3 r4 4 ∧ zCallI X d MX4_total [.ref r4] w3 (fun x6 w5 => Q (some (.int x6)) w5)))) :
    zRn X d kc ks MX11_lines 0 [some (.ref p0), some (.int a1), none] [] w Q := by
  refine z_aload_n p0 dX11_lines_0 rfl rfl ?_
  refine z_iload_n a1 dX11_lines_1 rfl rfl ?_
  refine zq_VO (N := MX11_orderIn) (As := [.int a1]) m_X11_117 dX11_lines_2 rfl rfl (Nat.le_of_ble_eq_true rfl) h (fun w1 h => ?_) (fun r2 w1 h => ?_)
  · refine z_nstore_n (i := 2) dX11_lines_5 rfl (by decide) rfl ?_
    refine z_nload_n dX11_lines_6 rfl rfl ?_
    refine z_ifnonnullN dX11_lines_7 ?_
    refine z_bipush (-2) dX11_lines_10 rfl ?_
    refine z_goto 23 dX11_lines_12 rfl ?_
    exact z_ireturn .int dX11_lines_23 rfl rfl h
  · refine z_astore_n (i := 2) dX11_lines_5 rfl (by decide) rfl ?_
    refine z_aload_n r2 dX11_lines_6 rfl rfl ?_
    refine z_ifnonnull 15 dX11_lines_7 rfl ?_
    refine z_aload_n p0 dX11_lines_15 rfl rfl ?_
    refine z_aload_n r2 dX11_lines_16 rfl rfl ?_
    refine zq_VR (N := MX11_linesOf) (As := [.ref r2]) m_X11_201 dX11_lines_17 rfl rfl (Nat.le_of_ble_eq_true rfl) h (fun r4 w3 h => ?_)
    refine zq_VI (N := MX4_total) (As := []) m_X11_205 dX11_lines_20 rfl rfl (Nat.le_of_ble_eq_true rfl) h (fun x6 w5 h => ?_)
    exact z_ireturn .int dX11_lines_23 rfl rfl h
theorem eX11_lines {X : zX} {d kc ks : Nat} {w : zW} {Q : Option Value → zW → Prop} (p0 : Nat) (a1 : Int32) (h : zRn X d kc ks MX11_lines 0 [some (.ref p0), some (.int a1), none] [] w Q) : zEv X d kc ks MX11_lines [.ref p0, .int a1] w Q :=
  zEv.of (by decide) (Nat.le_of_ble_eq_true rfl) (Or.inr (by simp [Value.category])) h
set_option maxRecDepth 100000 in
set_option maxHeartbeats 4000000 in
theorem bX11_linesOf_0 {X : zX} {d kc ks : Nat} {w : zW} {Q : Option Value → zW → Prop} (p0 : Nat) (p1 : Nat)
    (h : ∃ r1, zfR w p0 10 7 = some r1 ∧ (zIs w r1 4 ∧ zCallV X d MX4_fill [.ref r1, .ref p1] w (fun w2 => ∃ r3, zfR w2 p0 10 7 = some r3 ∧ (Q (some (.ref r3)) w2)))) :
    zRn X d kc ks MX11_linesOf 0 [some (.ref p0), some (.ref p1)] [] w Q := by
  refine z_aload_n p0 dX11_linesOf_0 rfl rfl ?_
  obtain ⟨r1, e, h⟩ := h
  refine zq_fR f_X11_58 dX11_linesOf_1 e ?_
  refine z_aload_n p1 dX11_linesOf_4 rfl rfl ?_
  refine zq_VV (N := MX4_fill) (As := [.ref p1]) m_X11_354 dX11_linesOf_5 rfl rfl (Nat.le_of_ble_eq_true rfl) h (fun w2 h => ?_)
  refine z_aload_n p0 dX11_linesOf_8 rfl rfl ?_
  obtain ⟨r3, e, h⟩ := h
  refine zq_fR f_X11_58 dX11_linesOf_9 e ?_
  exact z_areturn _ dX11_linesOf_12 rfl h
theorem eX11_linesOf {X : zX} {d kc ks : Nat} {w : zW} {Q : Option Value → zW → Prop} (p0 : Nat) (p1 : Nat) (h : zRn X d kc ks MX11_linesOf 0 [some (.ref p0), some (.ref p1)] [] w Q) : zEv X d kc ks MX11_linesOf [.ref p0, .ref p1] w Q :=
  zEv.of (by decide) (Nat.le_of_ble_eq_true rfl) (Or.inr (by simp [Value.category])) h
set_option maxRecDepth 100000 in
set_option maxHeartbeats 4000000 in
theorem bX11_line_0 {X : zX} {d kc ks : Nat} {w : zW} {Q : Option Value → zW → Prop} (p0 : Nat) (a1 : Int32) (a2 : Int32) (a3 : Int32)
    (h : zIs w p0 10 ∧ zCallO X d MX11_orderWith [.ref p0, .int a1, .int a3] w (fun w1 => Q (some (.int (-2))) w1) (fun r2 w1 => if 0 ≤ a2 then (zIs w1 p0 10 ∧ zCallR X d MX11_linesOf [.ref p0, .ref r2] w1 (fun r4 w3 => zIs w3 r4 4 ∧ zCallI X d MX4_thingAt [.ref r4, .ref r2, .int a2, .int a3] w3 (fun x6 w5 => Q (some (.int x6)) w5))) else (Q (some (.int (-2))) w1))) :
    zRn X d kc ks MX11_line 0 [some (.ref p0), some (.int a1), some (.int a2), some (.int a3), none] [] w Q := by
  refine z_aload_n p0 dX11_line_0 rfl rfl ?_
  refine z_iload_n a1 dX11_line_1 rfl rfl ?_
  refine z_iload_n a3 dX11_line_2 rfl rfl ?_
  refine zq_VO (N := MX11_orderWith) (As := [.int a1, .int a3]) m_X11_156 dX11_line_3 rfl rfl (Nat.le_of_ble_eq_true rfl) h (fun w1 h => ?_) (fun r2 w1 h => ?_)
  · refine z_nstore (i := 4) dX11_line_6 (by decide) rfl ?_
    refine z_nload dX11_line_8 rfl ?_
    refine z_ifnullN 17 dX11_line_10 rfl ?_
    refine z_bipush (-2) dX11_line_17 rfl ?_
    exact z_ireturn .int dX11_line_19 rfl rfl h
  · refine z_astore (i := 4) dX11_line_6 (by decide) rfl ?_
    refine z_aload r2 dX11_line_8 rfl ?_
    refine z_ifnull dX11_line_10 ?_
    refine z_iload_n a2 dX11_line_13 rfl rfl ?_
    refine z_if_ge 20 dX11_line_14 rfl (fun hc => ?_) (fun hc => ?_)
    · rw [if_pos hc] at h
      refine z_aload_n p0 dX11_line_20 rfl rfl ?_
      refine z_aload r2 dX11_line_21 rfl ?_
      refine zq_VR (N := MX11_linesOf) (As := [.ref r2]) m_X11_201 dX11_line_23 rfl rfl (Nat.le_of_ble_eq_true rfl) h (fun r4 w3 h => ?_)
      refine z_aload r2 dX11_line_26 rfl ?_
      refine z_iload_n a2 dX11_line_28 rfl rfl ?_
      refine z_iload_n a3 dX11_line_29 rfl rfl ?_
      refine zq_VI (N := MX4_thingAt) (As := [.ref r2, .int a2, .int a3]) m_X11_208 dX11_line_30 rfl rfl (Nat.le_of_ble_eq_true rfl) h (fun x6 w5 h => ?_)
      exact z_ireturn .int dX11_line_33 rfl rfl h
    · rw [if_neg hc] at h
      refine z_bipush (-2) dX11_line_17 rfl ?_
      exact z_ireturn .int dX11_line_19 rfl rfl h
theorem eX11_line {X : zX} {d kc ks : Nat} {w : zW} {Q : Option Value → zW → Prop} (p0 : Nat) (a1 : Int32) (a2 : Int32) (a3 : Int32) (h : zRn X d kc ks MX11_line 0 [some (.ref p0), some (.int a1), some (.int a2), some (.int a3), none] [] w Q) : zEv X d kc ks MX11_line [.ref p0, .int a1, .int a2, .int a3] w Q :=
  zEv.of (by decide) (Nat.le_of_ble_eq_true rfl) (Or.inr (by simp [Value.category])) h
set_option maxRecDepth 100000 in
set_option maxHeartbeats 4000000 in
theorem bX11_rank_0 {X : zX} {d kc ks : Nat} {w : zW} {Q : Option Value → zW → Prop} (p0 : Nat) (a1 : Int32) (a2 : Int32)
    (h : zIs w p0 10 ∧ zCallO X d MX11_orderWithRow [.ref p0, .int a1, .int a2] w (fun w1 => Q (some (.int (-2))) w1) (fun r2 w1 => zIs w1 p0 10 ∧ zCallR X d MX11_linesOf [.ref p0, .ref r2] w1 (fun r4 w3 => zIs w3 r4 4 ∧ zCallI X d MX4_numberOf [.ref r4, .ref r2, .int a2] w3 (fun x6 w5 => Q (some (.int x6)) w5)))) :
    zRn X d kc ks MX11_rank 0 [some (.ref p0), some (.int a1), some (.int a2), none] [] w Q := by
  refine z_aload_n p0 dX11_rank_0 rfl rfl ?_
  refine z_iload_n a1 dX11_rank_1 rfl rfl ?_
  refine z_iload_n a2 dX11_rank_2 rfl rfl ?_
  refine zq_VO (N := MX11_orderWithRow) (As := [.int a1, .int a2]) m_X11_212 dX11_rank_3 rfl rfl (Nat.le_of_ble_eq_true rfl) h (fun w1 h => ?_) (fun r2 w1 h => ?_)
  · refine z_nstore_n (i := 3) dX11_rank_6 rfl (by decide) rfl ?_
    refine z_nload_n dX11_rank_7 rfl rfl ?_
    refine z_ifnonnullN dX11_rank_8 ?_
    refine z_bipush (-2) dX11_rank_11 rfl ?_
    refine z_goto 26 dX11_rank_13 rfl ?_
    exact z_ireturn .int dX11_rank_26 rfl rfl h
  · refine z_astore_n (i := 3) dX11_rank_6 rfl (by decide) rfl ?_
    refine z_aload_n r2 dX11_rank_7 rfl rfl ?_
    refine z_ifnonnull 16 dX11_rank_8 rfl ?_
    refine z_aload_n p0 dX11_rank_16 rfl rfl ?_
    refine z_aload_n r2 dX11_rank_17 rfl rfl ?_
    refine zq_VR (N := MX11_linesOf) (As := [.ref r2]) m_X11_201 dX11_rank_18 rfl rfl (Nat.le_of_ble_eq_true rfl) h (fun r4 w3 h => ?_)
    refine z_aload_n r2 dX11_rank_21 rfl rfl ?_
    refine z_iload_n a2 dX11_rank_22 rfl rfl ?_
    refine zq_VI (N := MX4_numberOf) (As := [.ref r2, .int a2]) m_X11_215 dX11_rank_23 rfl rfl (Nat.le_of_ble_eq_true rfl) h (fun x6 w5 h => ?_)
    exact z_ireturn .int dX11_rank_26 rfl rfl h
theorem eX11_rank {X : zX} {d kc ks : Nat} {w : zW} {Q : Option Value → zW → Prop} (p0 : Nat) (a1 : Int32) (a2 : Int32) (h : zRn X d kc ks MX11_rank 0 [some (.ref p0), some (.int a1), some (.int a2), none] [] w Q) : zEv X d kc ks MX11_rank [.ref p0, .int a1, .int a2] w Q :=
  zEv.of (by decide) (Nat.le_of_ble_eq_true rfl) (Or.inr (by simp [Value.category])) h
set_option maxRecDepth 100000 in
set_option maxHeartbeats 4000000 in
theorem bX11_orderWithRow_0 {X : zX} {d kc ks : Nat} {w : zW} {Q : Option Value → zW → Prop} (p0 : Nat) (a1 : Int32) (a2 : Int32)
    (h : zIs w p0 10 ∧ zCallO X d MX11_orderIn [.ref p0, .int a1] w (fun w1 => zRn X d kc ks MX11_orderWithRow 21 [none, none, none, none] [] w1 Q) (fun r2 w1 => zIs w1 r2 5 ∧ zCallR X d MX5_rows [.ref r2] w1 (fun r4 w3 => zIs w3 r4 8 ∧ zCallI X d MX8_has [.ref r4, .int a2] w3 (fun x6 w5 => if x6 = 0 then (zRn X d kc ks MX11_orderWithRow 21 [none, none, none, none] [] w5 Q) else (Q (some (.ref r2)) w5))))) :
    zRn X d kc ks MX11_orderWithRow 0 [some (.ref p0), some (.int a1), some (.int a2), none] [] w Q := by
  refine z_aload_n p0 dX11_orderWithRow_0 rfl rfl ?_
  refine z_iload_n a1 dX11_orderWithRow_1 rfl rfl ?_
  refine zq_VO (N := MX11_orderIn) (As := [.int a1]) m_X11_117 dX11_orderWithRow_2 rfl rfl (Nat.le_of_ble_eq_true rfl) h (fun w1 h => ?_) (fun r2 w1 h => ?_)
  · refine z_nstore_n (i := 3) dX11_orderWithRow_5 rfl (by decide) rfl ?_
    refine z_nload_n dX11_orderWithRow_6 rfl rfl ?_
    refine z_ifnullN 21 dX11_orderWithRow_7 rfl ?_
    exact zRn.weak h (zLe_of [false, false, false, false] (And.intro rfl (And.intro rfl (And.intro rfl (And.intro rfl (trivial))))))
  · refine z_astore_n (i := 3) dX11_orderWithRow_5 rfl (by decide) rfl ?_
    refine z_aload_n r2 dX11_orderWithRow_6 rfl rfl ?_
    refine z_ifnull dX11_orderWithRow_7 ?_
    refine z_aload_n r2 dX11_orderWithRow_10 rfl rfl ?_
    refine zq_VR (N := MX5_rows) (As := []) m_X11_149 dX11_orderWithRow_11 rfl rfl (Nat.le_of_ble_eq_true rfl) h (fun r4 w3 h => ?_)
    refine z_iload_n a2 dX11_orderWithRow_14 rfl rfl ?_
    refine zq_VI (N := MX8_has) (As := [.int a2]) m_X11_353 dX11_orderWithRow_15 rfl rfl (Nat.le_of_ble_eq_true rfl) h (fun x6 w5 h => ?_)
    refine z_if_ne 25 dX11_orderWithRow_18 rfl (fun hc => ?_) (fun hc => ?_)
    · rw [if_neg hc] at h
      refine z_aload_n r2 dX11_orderWithRow_25 rfl rfl ?_
      exact z_areturn _ dX11_orderWithRow_26 rfl h
    · rw [if_pos hc] at h
      exact zRn.weak h (zLe_of [false, false, false, false] (And.intro rfl (And.intro rfl (And.intro rfl (And.intro rfl (trivial))))))
set_option maxRecDepth 100000 in
set_option maxHeartbeats 4000000 in
theorem bX11_orderWithRow_21 {X : zX} {d kc ks : Nat} {w : zW} {Q : Option Value → zW → Prop}
    (h : Q (some .null) w) :
    zRn X d kc ks MX11_orderWithRow 21 [none, none, none, none] [] w Q := by
  refine z_null dX11_orderWithRow_21 ?_
  refine z_goto 26 dX11_orderWithRow_22 rfl ?_
  exact z_nreturn _ dX11_orderWithRow_26 rfl h
theorem eX11_orderWithRow {X : zX} {d kc ks : Nat} {w : zW} {Q : Option Value → zW → Prop} (p0 : Nat) (a1 : Int32) (a2 : Int32) (h : zRn X d kc ks MX11_orderWithRow 0 [some (.ref p0), some (.int a1), some (.int a2), none] [] w Q) : zEv X d kc ks MX11_orderWithRow [.ref p0, .int a1, .int a2] w Q :=
  zEv.of (by decide) (Nat.le_of_ble_eq_true rfl) (Or.inr (by simp [Value.category])) h
set_option maxRecDepth 100000 in
set_option maxHeartbeats 4000000 in
theorem bX11_deep_0 {X : zX} {d kc ks : Nat} {w : zW} {Q : Option Value → zW → Prop} (p0 : Nat) (a1 : Int32) (a2 : Int32) (a3 : Int32)
    (h : zIs w p0 10 ∧ zCallO X d MX11_orderWith [.ref p0, .int a1, .int a2] w (fun w1 => Q (some (.int (-2))) w1) (fun r2 w1 => zCallI X d MX11_isBit [.int a3] w1 (fun x4 w3 => if x4 = 0 then (Q (some (.int (-2))) w3) else (∃ r5, zfR w3 p0 10 6 = some r5 ∧ (if a3 = 1 then (zRn X d kc ks MX11_deep 40 [none, none, none, none, none] [.int 1, .int a2, .ref r2, .ref r5] w3 Q) else (zRn X d kc ks MX11_deep 40 [none, none, none, none, none] [.int 0, .int a2, .ref r2, .ref r5] w3 Q)))))) :
    zRn X d kc ks MX11_deep 0 [some (.ref p0), some (.int a1), some (.int a2), some (.int a3), none] [] w Q := by
  refine z_aload_n p0 dX11_deep_0 rfl rfl ?_
  refine z_iload_n a1 dX11_deep_1 rfl rfl ?_
  refine z_iload_n a2 dX11_deep_2 rfl rfl ?_
  refine zq_VO (N := MX11_orderWith) (As := [.int a1, .int a2]) m_X11_156 dX11_deep_3 rfl rfl (Nat.le_of_ble_eq_true rfl) h (fun w1 h => ?_) (fun r2 w1 h => ?_)
  · refine z_nstore (i := 4) dX11_deep_6 (by decide) rfl ?_
    refine z_nload dX11_deep_8 rfl ?_
    refine z_ifnullN 20 dX11_deep_10 rfl ?_
    refine z_bipush (-2) dX11_deep_20 rfl ?_
    exact z_ireturn .int dX11_deep_22 rfl rfl h
  · refine z_astore (i := 4) dX11_deep_6 (by decide) rfl ?_
    refine z_aload r2 dX11_deep_8 rfl ?_
    refine z_ifnull dX11_deep_10 ?_
    refine z_iload_n a3 dX11_deep_13 rfl rfl ?_
    refine zq_SI (N := MX11_isBit) (As := [.int a3]) m_X11_218 dX11_deep_14 rfl rfl (Nat.le_of_ble_eq_true rfl) h (fun x4 w3 h => ?_)
    refine z_if_ne 23 dX11_deep_17 rfl (fun hc => ?_) (fun hc => ?_)
    · rw [if_neg hc] at h
      refine z_aload_n p0 dX11_deep_23 rfl rfl ?_
      obtain ⟨r5, e, h⟩ := h
      refine zq_fR f_X11_51 dX11_deep_24 e ?_
      refine z_aload r2 dX11_deep_27 rfl ?_
      refine z_iload_n a2 dX11_deep_29 rfl rfl ?_
      refine z_iload_n a3 dX11_deep_30 rfl rfl ?_
      refine z_iconst 1 dX11_deep_31 rfl ?_
      refine z_icmp_ne 39 dX11_deep_32 rfl (fun hc => ?_) (fun hc => ?_)
      · rw [if_neg hc] at h
        refine z_iconst 0 dX11_deep_39 rfl ?_
        exact zRn.weak h (zLe_of [false, false, false, false, false] (And.intro rfl (And.intro rfl (And.intro rfl (And.intro rfl (And.intro rfl (trivial)))))))
      · rw [if_pos hc] at h
        refine z_iconst 1 dX11_deep_35 rfl ?_
        refine z_goto 40 dX11_deep_36 rfl ?_
        exact zRn.weak h (zLe_of [false, false, false, false, false] (And.intro rfl (And.intro rfl (And.intro rfl (And.intro rfl (And.intro rfl (trivial)))))))
    · rw [if_pos hc] at h
      refine z_bipush (-2) dX11_deep_20 rfl ?_
      exact z_ireturn .int dX11_deep_22 rfl rfl h
set_option maxRecDepth 100000 in
set_option maxHeartbeats 4000000 in
theorem bX11_deep_40 {X : zX} {d kc ks : Nat} {w : zW} {Q : Option Value → zW → Prop} (u0 : Int32) (u1 : Int32) (u2 : Nat) (u3 : Nat)
    (h : zIs w u3 1 ∧ zCallI X d MX1_depth [.ref u3, .ref u2, .int u1, .int u0] w (fun x2 w1 => Q (some (.int x2)) w1)) :
    zRn X d kc ks MX11_deep 40 [none, none, none, none, none] [.int u0, .int u1, .ref u2, .ref u3] w Q := by
  refine zq_VI (N := MX1_depth) (As := [.ref u2, .int u1, .int u0]) m_X11_221 dX11_deep_40 rfl rfl (Nat.le_of_ble_eq_true rfl) h (fun x2 w1 h => ?_)
  exact z_ireturn .int dX11_deep_43 rfl rfl h
theorem eX11_deep {X : zX} {d kc ks : Nat} {w : zW} {Q : Option Value → zW → Prop} (p0 : Nat) (a1 : Int32) (a2 : Int32) (a3 : Int32) (h : zRn X d kc ks MX11_deep 0 [some (.ref p0), some (.int a1), some (.int a2), some (.int a3), none] [] w Q) : zEv X d kc ks MX11_deep [.ref p0, .int a1, .int a2, .int a3] w Q :=
  zEv.of (by decide) (Nat.le_of_ble_eq_true rfl) (Or.inr (by simp [Value.category])) h
set_option maxRecDepth 100000 in
set_option maxHeartbeats 4000000 in
theorem bX11_isBit_0 {X : zX} {d kc ks : Nat} {w : zW} {Q : Option Value → zW → Prop} (a0 : Int32)
    (h : if a0 = 0 then (zRn X d kc ks MX11_isBit 9 [none] [] w Q) else (if a0 = 1 then (zRn X d kc ks MX11_isBit 9 [none] [] w Q) else (Q (some (.int 0)) w))) :
    zRn X d kc ks MX11_isBit 0 [some (.int a0)] [] w Q := by
  refine z_iload_n a0 dX11_isBit_0 rfl rfl ?_
  refine z_if_eq 9 dX11_isBit_1 rfl (fun hc => ?_) (fun hc => ?_)
  · rw [if_pos hc] at h
    exact zRn.weak h (zLe_of [false] (And.intro rfl (trivial)))
  · rw [if_neg hc] at h
    refine z_iload_n a0 dX11_isBit_4 rfl rfl ?_
    refine z_iconst 1 dX11_isBit_5 rfl ?_
    refine z_icmp_ne 13 dX11_isBit_6 rfl (fun hc => ?_) (fun hc => ?_)
    · rw [if_neg hc] at h
      refine z_iconst 0 dX11_isBit_13 rfl ?_
      exact z_ireturn .boolean dX11_isBit_14 rfl rfl h
    · rw [if_pos hc] at h
      exact zRn.weak h (zLe_of [false] (And.intro rfl (trivial)))
set_option maxRecDepth 100000 in
set_option maxHeartbeats 4000000 in
theorem bX11_isBit_9 {X : zX} {d kc ks : Nat} {w : zW} {Q : Option Value → zW → Prop}
    (h : Q (some (.int 1)) w) :
    zRn X d kc ks MX11_isBit 9 [none] [] w Q := by
  refine z_iconst 1 dX11_isBit_9 rfl ?_
  refine z_goto 14 dX11_isBit_10 rfl ?_
  exact z_ireturn .boolean dX11_isBit_14 rfl rfl h
theorem eX11_isBit {X : zX} {d kc ks : Nat} {w : zW} {Q : Option Value → zW → Prop} (a0 : Int32) (h : zRn X d kc ks MX11_isBit 0 [some (.int a0)] [] w Q) : zEv X d kc ks MX11_isBit [.int a0] w Q :=
  zEv.of (by decide) (Nat.le_of_ble_eq_true rfl) (Or.inr (by simp [Value.category])) h
set_option maxRecDepth 100000 in
set_option maxHeartbeats 4000000 in
theorem bX11_through_0 {X : zX} {d kc ks : Nat} {w : zW} {Q : Option Value → zW → Prop} (p0 : Nat) (a1 : Int32) (a2 : Int32)
    (h : zIs w p0 10 ∧ zCallO X d MX11_orderIn [.ref p0, .int a1] w (fun w1 => Q (some (.int (-2))) w1) (fun r2 w1 => if a2 < 0 then (Q (some (.int (-2))) w1) else (zIs w1 r2 5 ∧ zCallI X d MX5_all [.ref r2] w1 (fun x4 w3 => if a2 ≤ x4 then (zIs w3 p0 10 ∧ zCallR X d MX11_linesOf [.ref p0, .ref r2] w3 (fun r6 w5 => zIs w5 r6 4 ∧ zCallI X d MX4_thatBeginWith [.ref r6, .int a2] w5 (fun x8 w7 => Q (some (.int x8)) w7))) else (Q (some (.int (-2))) w3))))) :
    zRn X d kc ks MX11_through 0 [some (.ref p0), some (.int a1), some (.int a2), none] [] w Q := by
  refine z_aload_n p0 dX11_through_0 rfl rfl ?_
  refine z_iload_n a1 dX11_through_1 rfl rfl ?_
  refine zq_VO (N := MX11_orderIn) (As := [.int a1]) m_X11_117 dX11_through_2 rfl rfl (Nat.le_of_ble_eq_true rfl) h (fun w1 h => ?_) (fun r2 w1 h => ?_)
  · refine z_nstore_n (i := 3) dX11_through_5 rfl (by decide) rfl ?_
    refine z_nload_n dX11_through_6 rfl rfl ?_
    refine z_ifnullN 22 dX11_through_7 rfl ?_
    refine z_bipush (-2) dX11_through_22 rfl ?_
    exact z_ireturn .int dX11_through_24 rfl rfl h
  · refine z_astore_n (i := 3) dX11_through_5 rfl (by decide) rfl ?_
    refine z_aload_n r2 dX11_through_6 rfl rfl ?_
    refine z_ifnull dX11_through_7 ?_
    refine z_iload_n a2 dX11_through_10 rfl rfl ?_
    refine z_if_lt 22 dX11_through_11 rfl (fun hc => ?_) (fun hc => ?_)
    · rw [if_pos hc] at h
      refine z_bipush (-2) dX11_through_22 rfl ?_
      exact z_ireturn .int dX11_through_24 rfl rfl h
    · rw [if_neg hc] at h
      refine z_iload_n a2 dX11_through_14 rfl rfl ?_
      refine z_aload_n r2 dX11_through_15 rfl rfl ?_
      refine zq_VI (N := MX5_all) (As := []) m_X11_225 dX11_through_16 rfl rfl (Nat.le_of_ble_eq_true rfl) h (fun x4 w3 h => ?_)
      refine z_icmp_le 25 dX11_through_19 rfl (fun hc => ?_) (fun hc => ?_)
      · rw [if_pos hc] at h
        refine z_aload_n p0 dX11_through_25 rfl rfl ?_
        refine z_aload_n r2 dX11_through_26 rfl rfl ?_
        refine zq_VR (N := MX11_linesOf) (As := [.ref r2]) m_X11_201 dX11_through_27 rfl rfl (Nat.le_of_ble_eq_true rfl) h (fun r6 w5 h => ?_)
        refine z_iload_n a2 dX11_through_30 rfl rfl ?_
        refine zq_VI (N := MX4_thatBeginWith) (As := [.int a2]) m_X11_228 dX11_through_31 rfl rfl (Nat.le_of_ble_eq_true rfl) h (fun x8 w7 h => ?_)
        exact z_ireturn .int dX11_through_34 rfl rfl h
      · rw [if_neg hc] at h
        refine z_bipush (-2) dX11_through_22 rfl ?_
        exact z_ireturn .int dX11_through_24 rfl rfl h
theorem eX11_through {X : zX} {d kc ks : Nat} {w : zW} {Q : Option Value → zW → Prop} (p0 : Nat) (a1 : Int32) (a2 : Int32) (h : zRn X d kc ks MX11_through 0 [some (.ref p0), some (.int a1), some (.int a2), none] [] w Q) : zEv X d kc ks MX11_through [.ref p0, .int a1, .int a2] w Q :=
  zEv.of (by decide) (Nat.le_of_ble_eq_true rfl) (Or.inr (by simp [Value.category])) h
set_option maxRecDepth 100000 in
set_option maxHeartbeats 4000000 in
theorem bX11_before_0 {X : zX} {d kc ks : Nat} {w : zW} {Q : Option Value → zW → Prop} (p0 : Nat) (a1 : Int32) (a2 : Int32) (a3 : Int32)
    (h : zIs w p0 10 ∧ zCallO X d MX11_orderWith [.ref p0, .int a1, .int a2] w (fun w1 => Q (some (.int (-2))) w1) (fun r2 w1 => zIs w1 r2 5 ∧ zCallI X d MX5_has [.ref r2, .int a3] w1 (fun x4 w3 => if x4 = 0 then (Q (some (.int (-2))) w3) else (zIs w3 p0 10 ∧ zCallR X d MX11_linesOf [.ref p0, .ref r2] w3 (fun r6 w5 => zIs w5 r6 4 ∧ zCallI X d MX4_withFirstAhead [.ref r6, .ref r2, .int a2, .int a3] w5 (fun x8 w7 => Q (some (.int x8)) w7)))))) :
    zRn X d kc ks MX11_before 0 [some (.ref p0), some (.int a1), some (.int a2), some (.int a3), none] [] w Q := by
  refine z_aload_n p0 dX11_before_0 rfl rfl ?_
  refine z_iload_n a1 dX11_before_1 rfl rfl ?_
  refine z_iload_n a2 dX11_before_2 rfl rfl ?_
  refine zq_VO (N := MX11_orderWith) (As := [.int a1, .int a2]) m_X11_156 dX11_before_3 rfl rfl (Nat.le_of_ble_eq_true rfl) h (fun w1 h => ?_) (fun r2 w1 h => ?_)
  · refine z_nstore (i := 4) dX11_before_6 (by decide) rfl ?_
    refine z_nload dX11_before_8 rfl ?_
    refine z_ifnullN 22 dX11_before_10 rfl ?_
    refine z_bipush (-2) dX11_before_22 rfl ?_
    exact z_ireturn .int dX11_before_24 rfl rfl h
  · refine z_astore (i := 4) dX11_before_6 (by decide) rfl ?_
    refine z_aload r2 dX11_before_8 rfl ?_
    refine z_ifnull dX11_before_10 ?_
    refine z_aload r2 dX11_before_13 rfl ?_
    refine z_iload_n a3 dX11_before_15 rfl rfl ?_
    refine zq_VI (N := MX5_has) (As := [.int a3]) m_X11_231 dX11_before_16 rfl rfl (Nat.le_of_ble_eq_true rfl) h (fun x4 w3 h => ?_)
    refine z_if_ne 25 dX11_before_19 rfl (fun hc => ?_) (fun hc => ?_)
    · rw [if_neg hc] at h
      refine z_aload_n p0 dX11_before_25 rfl rfl ?_
      refine z_aload r2 dX11_before_26 rfl ?_
      refine zq_VR (N := MX11_linesOf) (As := [.ref r2]) m_X11_201 dX11_before_28 rfl rfl (Nat.le_of_ble_eq_true rfl) h (fun r6 w5 h => ?_)
      refine z_aload r2 dX11_before_31 rfl ?_
      refine z_iload_n a2 dX11_before_33 rfl rfl ?_
      refine z_iload_n a3 dX11_before_34 rfl rfl ?_
      refine zq_VI (N := MX4_withFirstAhead) (As := [.ref r2, .int a2, .int a3]) m_X11_234 dX11_before_35 rfl rfl (Nat.le_of_ble_eq_true rfl) h (fun x8 w7 h => ?_)
      exact z_ireturn .int dX11_before_38 rfl rfl h
    · rw [if_pos hc] at h
      refine z_bipush (-2) dX11_before_22 rfl ?_
      exact z_ireturn .int dX11_before_24 rfl rfl h
theorem eX11_before {X : zX} {d kc ks : Nat} {w : zW} {Q : Option Value → zW → Prop} (p0 : Nat) (a1 : Int32) (a2 : Int32) (a3 : Int32) (h : zRn X d kc ks MX11_before 0 [some (.ref p0), some (.int a1), some (.int a2), some (.int a3), none] [] w Q) : zEv X d kc ks MX11_before [.ref p0, .int a1, .int a2, .int a3] w Q :=
  zEv.of (by decide) (Nat.le_of_ble_eq_true rfl) (Or.inr (by simp [Value.category])) h
set_option maxRecDepth 100000 in
set_option maxHeartbeats 4000000 in
theorem bX11_at_0 {X : zX} {d kc ks : Nat} {w : zW} {Q : Option Value → zW → Prop} (p0 : Nat) (a1 : Int32) (a2 : Int32) (a3 : Int32)
    (h : zIs w p0 10 ∧ zCallO X d MX11_orderWith [.ref p0, .int a1, .int a2] w (fun w1 => Q (some (.int (-2))) w1) (fun r2 w1 => zIs w1 r2 5 ∧ zCallI X d MX5_has [.ref r2, .int a3] w1 (fun x4 w3 => if x4 = 0 then (Q (some (.int (-2))) w3) else (zIs w3 p0 10 ∧ zCallR X d MX11_linesOf [.ref p0, .ref r2] w3 (fun r6 w5 => zIs w5 r6 4 ∧ zCallI X d MX4_withThingAt [.ref r6, .ref r2, .int a2, .int a3] w5 (fun x8 w7 => Q (some (.int x8)) w7)))))) :
    zRn X d kc ks MX11_at 0 [some (.ref p0), some (.int a1), some (.int a2), some (.int a3), none] [] w Q := by
  refine z_aload_n p0 dX11_at_0 rfl rfl ?_
  refine z_iload_n a1 dX11_at_1 rfl rfl ?_
  refine z_iload_n a2 dX11_at_2 rfl rfl ?_
  refine zq_VO (N := MX11_orderWith) (As := [.int a1, .int a2]) m_X11_156 dX11_at_3 rfl rfl (Nat.le_of_ble_eq_true rfl) h (fun w1 h => ?_) (fun r2 w1 h => ?_)
  · refine z_nstore (i := 4) dX11_at_6 (by decide) rfl ?_
    refine z_nload dX11_at_8 rfl ?_
    refine z_ifnullN 22 dX11_at_10 rfl ?_
    refine z_bipush (-2) dX11_at_22 rfl ?_
    exact z_ireturn .int dX11_at_24 rfl rfl h
  · refine z_astore (i := 4) dX11_at_6 (by decide) rfl ?_
    refine z_aload r2 dX11_at_8 rfl ?_
    refine z_ifnull dX11_at_10 ?_
    refine z_aload r2 dX11_at_13 rfl ?_
    refine z_iload_n a3 dX11_at_15 rfl rfl ?_
    refine zq_VI (N := MX5_has) (As := [.int a3]) m_X11_231 dX11_at_16 rfl rfl (Nat.le_of_ble_eq_true rfl) h (fun x4 w3 h => ?_)
    refine z_if_ne 25 dX11_at_19 rfl (fun hc => ?_) (fun hc => ?_)
    · rw [if_neg hc] at h
      refine z_aload_n p0 dX11_at_25 rfl rfl ?_
      refine z_aload r2 dX11_at_26 rfl ?_
      refine zq_VR (N := MX11_linesOf) (As := [.ref r2]) m_X11_201 dX11_at_28 rfl rfl (Nat.le_of_ble_eq_true rfl) h (fun r6 w5 h => ?_)
      refine z_aload r2 dX11_at_31 rfl ?_
      refine z_iload_n a2 dX11_at_33 rfl rfl ?_
      refine z_iload_n a3 dX11_at_34 rfl rfl ?_
      refine zq_VI (N := MX4_withThingAt) (As := [.ref r2, .int a2, .int a3]) m_X11_237 dX11_at_35 rfl rfl (Nat.le_of_ble_eq_true rfl) h (fun x8 w7 h => ?_)
      exact z_ireturn .int dX11_at_38 rfl rfl h
    · rw [if_pos hc] at h
      refine z_bipush (-2) dX11_at_22 rfl ?_
      exact z_ireturn .int dX11_at_24 rfl rfl h
theorem eX11_at {X : zX} {d kc ks : Nat} {w : zW} {Q : Option Value → zW → Prop} (p0 : Nat) (a1 : Int32) (a2 : Int32) (a3 : Int32) (h : zRn X d kc ks MX11_at 0 [some (.ref p0), some (.int a1), some (.int a2), some (.int a3), none] [] w Q) : zEv X d kc ks MX11_at [.ref p0, .int a1, .int a2, .int a3] w Q :=
  zEv.of (by decide) (Nat.le_of_ble_eq_true rfl) (Or.inr (by simp [Value.category])) h
set_option maxRecDepth 100000 in
set_option maxHeartbeats 4000000 in
theorem bX11_mean_0 {X : zX} {d kc ks : Nat} {w : zW} {Q : Option Value → zW → Prop} (p0 : Nat) (a1 : Int32) (a2 : Int32) (a3 : Int32)
    (h : zIs w p0 10 ∧ zCallO X d MX11_orderWith [.ref p0, .int a1, .int a2] w (fun w1 => Q (some (.int (-2))) w1) (fun r2 w1 => zCallI X d MX11_isBit [.int a3] w1 (fun x4 w3 => if x4 = 0 then (Q (some (.int (-2))) w3) else (zIs w3 p0 10 ∧ zCallR X d MX11_linesOf [.ref p0, .ref r2] w3 (fun r6 w5 => zIs w5 r6 4 ∧ zCallI X d MX4_total [.ref r6] w5 (fun x8 w7 => ∃ r9, zfR w7 p0 10 7 = some r9 ∧ (zIs w7 r9 4 ∧ zCallI X d MX4_placeSum [.ref r9, .ref r2, .int a2] w7 (fun x11 w10 => zCallI X d MX11_commonDivisor [.int x11, .int x8] w10 (fun x13 w12 => if x13 = 0 then (Q (some (.int (-2))) w12) else (if a3 = 0 then (¬ x13 = 0 ∧ (Q (some (.int (x11 / x13))) w12)) else (¬ x13 = 0 ∧ (Q (some (.int (x8 / x13))) w12)))))))))))) :
    zRn X d kc ks MX11_mean 0 [some (.ref p0), some (.int a1), some (.int a2), some (.int a3), none, none, none, none] [] w Q := by
  refine z_aload_n p0 dX11_mean_0 rfl rfl ?_
  refine z_iload_n a1 dX11_mean_1 rfl rfl ?_
  refine z_iload_n a2 dX11_mean_2 rfl rfl ?_
  refine zq_VO (N := MX11_orderWith) (As := [.int a1, .int a2]) m_X11_156 dX11_mean_3 rfl rfl (Nat.le_of_ble_eq_true rfl) h (fun w1 h => ?_) (fun r2 w1 h => ?_)
  · refine z_nstore (i := 4) dX11_mean_6 (by decide) rfl ?_
    refine z_nload dX11_mean_8 rfl ?_
    refine z_ifnullN 20 dX11_mean_10 rfl ?_
    refine z_bipush (-2) dX11_mean_20 rfl ?_
    exact z_ireturn .int dX11_mean_22 rfl rfl h
  · refine z_astore (i := 4) dX11_mean_6 (by decide) rfl ?_
    refine z_aload r2 dX11_mean_8 rfl ?_
    refine z_ifnull dX11_mean_10 ?_
    refine z_iload_n a3 dX11_mean_13 rfl rfl ?_
    refine zq_SI (N := MX11_isBit) (As := [.int a3]) m_X11_218 dX11_mean_14 rfl rfl (Nat.le_of_ble_eq_true rfl) h (fun x4 w3 h => ?_)
    refine z_if_ne 23 dX11_mean_17 rfl (fun hc => ?_) (fun hc => ?_)
    · rw [if_neg hc] at h
      refine z_aload_n p0 dX11_mean_23 rfl rfl ?_
      refine z_aload r2 dX11_mean_24 rfl ?_
      refine zq_VR (N := MX11_linesOf) (As := [.ref r2]) m_X11_201 dX11_mean_26 rfl rfl (Nat.le_of_ble_eq_true rfl) h (fun r6 w5 h => ?_)
      refine zq_VI (N := MX4_total) (As := []) m_X11_205 dX11_mean_29 rfl rfl (Nat.le_of_ble_eq_true rfl) h (fun x8 w7 h => ?_)
      refine z_istore (i := 5) dX11_mean_32 (by decide) rfl ?_
      refine z_aload_n p0 dX11_mean_34 rfl rfl ?_
      obtain ⟨r9, e, h⟩ := h
      refine zq_fR f_X11_58 dX11_mean_35 e ?_
      refine z_aload r2 dX11_mean_38 rfl ?_
      refine z_iload_n a2 dX11_mean_40 rfl rfl ?_
      refine zq_VI (N := MX4_placeSum) (As := [.ref r2, .int a2]) m_X11_240 dX11_mean_41 rfl rfl (Nat.le_of_ble_eq_true rfl) h (fun x11 w10 h => ?_)
      refine z_istore (i := 6) dX11_mean_44 (by decide) rfl ?_
      refine z_iload x11 dX11_mean_46 rfl ?_
      refine z_iload x8 dX11_mean_48 rfl ?_
      refine zq_SI (N := MX11_commonDivisor) (As := [.int x11, .int x8]) m_X11_243 dX11_mean_50 rfl rfl (Nat.le_of_ble_eq_true rfl) h (fun x13 w12 h => ?_)
      refine z_istore (i := 7) dX11_mean_53 (by decide) rfl ?_
      refine z_iload x13 dX11_mean_55 rfl ?_
      refine z_if_ne 63 dX11_mean_57 rfl (fun hc => ?_) (fun hc => ?_)
      · rw [if_neg hc] at h
        refine z_iload_n a3 dX11_mean_63 rfl rfl ?_
        refine z_if_ne 72 dX11_mean_64 rfl (fun hc => ?_) (fun hc => ?_)
        · rw [if_neg hc] at h
          refine z_iload x8 dX11_mean_72 rfl ?_
          refine z_iload x13 dX11_mean_74 rfl ?_
          refine z_idiv dX11_mean_76 h.1 ?_
          have h := h.2
          exact z_ireturn .int dX11_mean_77 rfl rfl h
        · rw [if_pos hc] at h
          refine z_iload x11 dX11_mean_67 rfl ?_
          refine z_goto 74 dX11_mean_69 rfl ?_
          refine z_iload x13 dX11_mean_74 rfl ?_
          refine z_idiv dX11_mean_76 h.1 ?_
          have h := h.2
          exact z_ireturn .int dX11_mean_77 rfl rfl h
      · rw [if_pos hc] at h
        refine z_bipush (-2) dX11_mean_60 rfl ?_
        exact z_ireturn .int dX11_mean_62 rfl rfl h
    · rw [if_pos hc] at h
      refine z_bipush (-2) dX11_mean_20 rfl ?_
      exact z_ireturn .int dX11_mean_22 rfl rfl h
theorem eX11_mean {X : zX} {d kc ks : Nat} {w : zW} {Q : Option Value → zW → Prop} (p0 : Nat) (a1 : Int32) (a2 : Int32) (a3 : Int32) (h : zRn X d kc ks MX11_mean 0 [some (.ref p0), some (.int a1), some (.int a2), some (.int a3), none, none, none, none] [] w Q) : zEv X d kc ks MX11_mean [.ref p0, .int a1, .int a2, .int a3] w Q :=
  zEv.of (by decide) (Nat.le_of_ble_eq_true rfl) (Or.inr (by simp [Value.category])) h
set_option maxRecDepth 100000 in
set_option maxHeartbeats 4000000 in
theorem bX11_commonDivisor_0 {X : zX} {d kc ks : Nat} {w : zW} {Q : Option Value → zW → Prop} (a0 : Int32) (a1 : Int32)
    (h : zRn X d kc ks MX11_commonDivisor 7 [none, none, some (.int a0), some (.int a1), some (.int 0), none] [] w Q) :
    zRn X d kc ks MX11_commonDivisor 0 [some (.int a0), some (.int a1), none, none, none, none] [] w Q := by
  refine z_iload_n a0 dX11_commonDivisor_0 rfl rfl ?_
  refine z_istore_n (i := 2) dX11_commonDivisor_1 rfl (by decide) rfl ?_
  refine z_iload_n a1 dX11_commonDivisor_2 rfl rfl ?_
  refine z_istore_n (i := 3) dX11_commonDivisor_3 rfl (by decide) rfl ?_
  refine z_iconst 0 dX11_commonDivisor_4 rfl ?_
  refine z_istore (i := 4) dX11_commonDivisor_5 (by decide) rfl ?_
  exact zRn.weak h (zLe_of [false, false, true, true, true, true] (And.intro rfl (And.intro rfl (And.intro rfl (And.intro rfl (And.intro rfl (And.intro rfl (trivial))))))))
set_option maxRecDepth 100000 in
set_option maxHeartbeats 4000000 in
theorem bX11_commonDivisor_7 {X : zX} {d kc ks : Nat} {w : zW} {Q : Option Value → zW → Prop} (v2 : Int32) (v3 : Int32) (v4 : Int32)
    (h : if 64 ≤ v4 then (Q (some (.int v2)) w) else (if v3 = 0 then (Q (some (.int v2)) w) else (¬ v3 = 0 ∧ (zRn X d kc ks MX11_commonDivisor 7 [none, none, some (.int v3), some (.int (v2 - v2 / v3 * v3)), some (.int (v4 + 1)), none] [] w Q)))) :
    zRn X d kc ks MX11_commonDivisor 7 [none, none, some (.int v2), some (.int v3), some (.int v4), none] [] w Q := by
  refine z_iload v4 dX11_commonDivisor_7 rfl ?_
  refine z_bipush 64 dX11_commonDivisor_9 rfl ?_
  refine z_icmp_ge 34 dX11_commonDivisor_11 rfl (fun hc => ?_) (fun hc => ?_)
  · rw [if_pos hc] at h
    refine z_iload_n v2 dX11_commonDivisor_34 rfl rfl ?_
    exact z_ireturn .int dX11_commonDivisor_35 rfl rfl h
  · rw [if_neg hc] at h
    refine z_iload_n v3 dX11_commonDivisor_14 rfl rfl ?_
    refine z_if_eq 34 dX11_commonDivisor_15 rfl (fun hc => ?_) (fun hc => ?_)
    · rw [if_pos hc] at h
      refine z_iload_n v2 dX11_commonDivisor_34 rfl rfl ?_
      exact z_ireturn .int dX11_commonDivisor_35 rfl rfl h
    · rw [if_neg hc] at h
      refine z_iload_n v2 dX11_commonDivisor_18 rfl rfl ?_
      refine z_iload_n v3 dX11_commonDivisor_19 rfl rfl ?_
      refine z_irem dX11_commonDivisor_20 h.1 ?_
      have h := h.2
      refine z_istore (i := 5) dX11_commonDivisor_21 (by decide) rfl ?_
      refine z_iload_n v3 dX11_commonDivisor_23 rfl rfl ?_
      refine z_istore_n (i := 2) dX11_commonDivisor_24 rfl (by decide) rfl ?_
      refine z_iload (v2 - v2 / v3 * v3) dX11_commonDivisor_25 rfl ?_
      refine z_istore_n (i := 3) dX11_commonDivisor_27 rfl (by decide) rfl ?_
      refine z_iinc (i := 4) v4 (v4 + 1) dX11_commonDivisor_28 rfl rfl (by decide) rfl ?_
      refine z_goto 7 dX11_commonDivisor_31 rfl ?_
      exact zRn.weak h (zLe_of [true, true, true, true, true, false] (And.intro rfl (And.intro rfl (And.intro rfl (And.intro rfl (And.intro rfl (And.intro rfl (trivial))))))))
theorem eX11_commonDivisor {X : zX} {d kc ks : Nat} {w : zW} {Q : Option Value → zW → Prop} (a0 : Int32) (a1 : Int32) (h : zRn X d kc ks MX11_commonDivisor 0 [some (.int a0), some (.int a1), none, none, none, none] [] w Q) : zEv X d kc ks MX11_commonDivisor [.int a0, .int a1] w Q :=
  zEv.of (by decide) (Nat.le_of_ble_eq_true rfl) (Or.inr (by simp [Value.category])) h
set_option maxRecDepth 100000 in
set_option maxHeartbeats 4000000 in
theorem bX11_balance_0 {X : zX} {d kc ks : Nat} {w : zW} {Q : Option Value → zW → Prop} (p0 : Nat) (a1 : Int32) (a2 : Int32)
    (h : zIs w p0 10 ∧ zCallO X d MX11_orderIn [.ref p0, .int a1] w (fun w1 => Q (some (.int (-2))) w1) (fun r2 w1 => zCallI X d MX11_isBit [.int a2] w1 (fun x4 w3 => if x4 = 0 then (Q (some (.int (-2))) w3) else (zIs w3 p0 10 ∧ zCallR X d MX11_linesOf [.ref p0, .ref r2] w3 (fun r6 w5 => zIs w5 r6 4 ∧ zCallI X d MX4_bestBalanced [.ref r6, .ref r2] w5 (fun x8 w7 => if x8 = (-1) then (Q (some (.int x8)) w7) else (if a2 = 0 then (Q (some (.int x8)) w7) else (∃ r9, zfR w7 p0 10 7 = some r9 ∧ (zIs w7 r9 4 ∧ zCallI X d MX4_withFirstAhead [.ref r9, .ref r2, .int (x8 / 10), .int (x8 - x8 / 10 * 10)] w7 (fun x11 w10 => Q (some (.int x11)) w10)))))))))) :
    zRn X d kc ks MX11_balance 0 [some (.ref p0), some (.int a1), some (.int a2), none, none] [] w Q := by
  refine z_aload_n p0 dX11_balance_0 rfl rfl ?_
  refine z_iload_n a1 dX11_balance_1 rfl rfl ?_
  refine zq_VO (N := MX11_orderIn) (As := [.int a1]) m_X11_117 dX11_balance_2 rfl rfl (Nat.le_of_ble_eq_true rfl) h (fun w1 h => ?_) (fun r2 w1 h => ?_)
  · refine z_nstore_n (i := 3) dX11_balance_5 rfl (by decide) rfl ?_
    refine z_nload_n dX11_balance_6 rfl rfl ?_
    refine z_ifnullN 17 dX11_balance_7 rfl ?_
    refine z_bipush (-2) dX11_balance_17 rfl ?_
    exact z_ireturn .int dX11_balance_19 rfl rfl h
  · refine z_astore_n (i := 3) dX11_balance_5 rfl (by decide) rfl ?_
    refine z_aload_n r2 dX11_balance_6 rfl rfl ?_
    refine z_ifnull dX11_balance_7 ?_
    refine z_iload_n a2 dX11_balance_10 rfl rfl ?_
    refine zq_SI (N := MX11_isBit) (As := [.int a2]) m_X11_218 dX11_balance_11 rfl rfl (Nat.le_of_ble_eq_true rfl) h (fun x4 w3 h => ?_)
    refine z_if_ne 20 dX11_balance_14 rfl (fun hc => ?_) (fun hc => ?_)
    · rw [if_neg hc] at h
      refine z_aload_n p0 dX11_balance_20 rfl rfl ?_
      refine z_aload_n r2 dX11_balance_21 rfl rfl ?_
      refine zq_VR (N := MX11_linesOf) (As := [.ref r2]) m_X11_201 dX11_balance_22 rfl rfl (Nat.le_of_ble_eq_true rfl) h (fun r6 w5 h => ?_)
      refine z_aload_n r2 dX11_balance_25 rfl rfl ?_
      refine zq_VI (N := MX4_bestBalanced) (As := [.ref r2]) m_X11_247 dX11_balance_26 rfl rfl (Nat.le_of_ble_eq_true rfl) h (fun x8 w7 h => ?_)
      refine z_istore (i := 4) dX11_balance_29 (by decide) rfl ?_
      refine z_iload x8 dX11_balance_31 rfl ?_
      refine z_iconst (-1) dX11_balance_33 rfl ?_
      refine z_icmp_eq 41 dX11_balance_34 rfl (fun hc => ?_) (fun hc => ?_)
      · rw [if_pos hc] at h
        refine z_iload x8 dX11_balance_41 rfl ?_
        exact z_ireturn .int dX11_balance_43 rfl rfl h
      · rw [if_neg hc] at h
        refine z_iload_n a2 dX11_balance_37 rfl rfl ?_
        refine z_if_ne 44 dX11_balance_38 rfl (fun hc => ?_) (fun hc => ?_)
        · rw [if_neg hc] at h
          refine z_aload_n p0 dX11_balance_44 rfl rfl ?_
          obtain ⟨r9, e, h⟩ := h
          refine zq_fR f_X11_58 dX11_balance_45 e ?_
          refine z_aload_n r2 dX11_balance_48 rfl rfl ?_
          refine z_iload x8 dX11_balance_49 rfl ?_
          refine z_bipush 10 dX11_balance_51 rfl ?_
          refine z_idiv dX11_balance_53 (by decide) ?_
          refine z_iload x8 dX11_balance_54 rfl ?_
          refine z_bipush 10 dX11_balance_56 rfl ?_
          refine z_irem dX11_balance_58 (by decide) ?_
          refine zq_VI (N := MX4_withFirstAhead) (As := [.ref r2, .int (x8 / 10), .int (x8 - x8 / 10 * 10)]) m_X11_234 dX11_balance_59 rfl rfl (Nat.le_of_ble_eq_true rfl) h (fun x11 w10 h => ?_)
          exact z_ireturn .int dX11_balance_62 rfl rfl h
        · rw [if_pos hc] at h
          refine z_iload x8 dX11_balance_41 rfl ?_
          exact z_ireturn .int dX11_balance_43 rfl rfl h
    · rw [if_pos hc] at h
      refine z_bipush (-2) dX11_balance_17 rfl ?_
      exact z_ireturn .int dX11_balance_19 rfl rfl h
theorem eX11_balance {X : zX} {d kc ks : Nat} {w : zW} {Q : Option Value → zW → Prop} (p0 : Nat) (a1 : Int32) (a2 : Int32) (h : zRn X d kc ks MX11_balance 0 [some (.ref p0), some (.int a1), some (.int a2), none, none] [] w Q) : zEv X d kc ks MX11_balance [.ref p0, .int a1, .int a2] w Q :=
  zEv.of (by decide) (Nat.le_of_ble_eq_true rfl) (Or.inr (by simp [Value.category])) h
set_option maxRecDepth 100000 in
set_option maxHeartbeats 4000000 in
theorem bX11_jumps_0 {X : zX} {d kc ks : Nat} {w : zW} {Q : Option Value → zW → Prop} (p0 : Nat) (a1 : Int32) (a2 : Int32)
    (h : zIs w p0 10 ∧ zCallO X d MX11_orderIn [.ref p0, .int a1] w (fun w1 => Q (some (.int (-2))) w1) (fun r2 w1 => zCallI X d MX11_isBit [.int a2] w1 (fun x4 w3 => if x4 = 0 then (Q (some (.int (-2))) w3) else (∃ r5, zfR w3 p0 10 8 = some r5 ∧ (if a2 = 1 then (zRn X d kc ks MX11_jumps 35 [none, none, none, none] [.int 1, .ref r2, .ref r5] w3 Q) else (zRn X d kc ks MX11_jumps 35 [none, none, none, none] [.int 0, .ref r2, .ref r5] w3 Q)))))) :
    zRn X d kc ks MX11_jumps 0 [some (.ref p0), some (.int a1), some (.int a2), none] [] w Q := by
  refine z_aload_n p0 dX11_jumps_0 rfl rfl ?_
  refine z_iload_n a1 dX11_jumps_1 rfl rfl ?_
  refine zq_VO (N := MX11_orderIn) (As := [.int a1]) m_X11_117 dX11_jumps_2 rfl rfl (Nat.le_of_ble_eq_true rfl) h (fun w1 h => ?_) (fun r2 w1 h => ?_)
  · refine z_nstore_n (i := 3) dX11_jumps_5 rfl (by decide) rfl ?_
    refine z_nload_n dX11_jumps_6 rfl rfl ?_
    refine z_ifnullN 17 dX11_jumps_7 rfl ?_
    refine z_bipush (-2) dX11_jumps_17 rfl ?_
    exact z_ireturn .int dX11_jumps_19 rfl rfl h
  · refine z_astore_n (i := 3) dX11_jumps_5 rfl (by decide) rfl ?_
    refine z_aload_n r2 dX11_jumps_6 rfl rfl ?_
    refine z_ifnull dX11_jumps_7 ?_
    refine z_iload_n a2 dX11_jumps_10 rfl rfl ?_
    refine zq_SI (N := MX11_isBit) (As := [.int a2]) m_X11_218 dX11_jumps_11 rfl rfl (Nat.le_of_ble_eq_true rfl) h (fun x4 w3 h => ?_)
    refine z_if_ne 20 dX11_jumps_14 rfl (fun hc => ?_) (fun hc => ?_)
    · rw [if_neg hc] at h
      refine z_aload_n p0 dX11_jumps_20 rfl rfl ?_
      obtain ⟨r5, e, h⟩ := h
      refine zq_fR f_X11_65 dX11_jumps_21 e ?_
      refine z_aload_n r2 dX11_jumps_24 rfl rfl ?_
      refine z_iload_n a2 dX11_jumps_25 rfl rfl ?_
      refine z_iconst 1 dX11_jumps_26 rfl ?_
      refine z_icmp_ne 34 dX11_jumps_27 rfl (fun hc => ?_) (fun hc => ?_)
      · rw [if_neg hc] at h
        refine z_iconst 0 dX11_jumps_34 rfl ?_
        exact zRn.weak h (zLe_of [false, false, false, false] (And.intro rfl (And.intro rfl (And.intro rfl (And.intro rfl (trivial))))))
      · rw [if_pos hc] at h
        refine z_iconst 1 dX11_jumps_30 rfl ?_
        refine z_goto 35 dX11_jumps_31 rfl ?_
        exact zRn.weak h (zLe_of [false, false, false, false] (And.intro rfl (And.intro rfl (And.intro rfl (And.intro rfl (trivial))))))
    · rw [if_pos hc] at h
      refine z_bipush (-2) dX11_jumps_17 rfl ?_
      exact z_ireturn .int dX11_jumps_19 rfl rfl h
set_option maxRecDepth 100000 in
set_option maxHeartbeats 4000000 in
theorem bX11_jumps_35 {X : zX} {d kc ks : Nat} {w : zW} {Q : Option Value → zW → Prop} (u0 : Int32) (u1 : Nat) (u2 : Nat)
    (h : zIs w u2 2 ∧ zCallI X d MX2_extreme [.ref u2, .ref u1, .int u0] w (fun x2 w1 => Q (some (.int x2)) w1)) :
    zRn X d kc ks MX11_jumps 35 [none, none, none, none] [.int u0, .ref u1, .ref u2] w Q := by
  refine zq_VI (N := MX2_extreme) (As := [.ref u1, .int u0]) m_X11_250 dX11_jumps_35 rfl rfl (Nat.le_of_ble_eq_true rfl) h (fun x2 w1 h => ?_)
  exact z_ireturn .int dX11_jumps_38 rfl rfl h
theorem eX11_jumps {X : zX} {d kc ks : Nat} {w : zW} {Q : Option Value → zW → Prop} (p0 : Nat) (a1 : Int32) (a2 : Int32) (h : zRn X d kc ks MX11_jumps 0 [some (.ref p0), some (.int a1), some (.int a2), none] [] w Q) : zEv X d kc ks MX11_jumps [.ref p0, .int a1, .int a2] w Q :=
  zEv.of (by decide) (Nat.le_of_ble_eq_true rfl) (Or.inr (by simp [Value.category])) h
set_option maxRecDepth 100000 in
set_option maxHeartbeats 4000000 in
theorem bX11_jumper_0 {X : zX} {d kc ks : Nat} {w : zW} {Q : Option Value → zW → Prop} (p0 : Nat) (a1 : Int32) (a2 : Int32) (a3 : Int32)
    (h : zIs w p0 10 ∧ zCallO X d MX11_orderWith [.ref p0, .int a1, .int a3] w (fun w1 => Q (some (.int (-2))) w1) (fun r2 w1 => zCallI X d MX11_isBit [.int a2] w1 (fun x4 w3 => if x4 = 0 then (Q (some (.int (-2))) w3) else (∃ r5, zfR w3 p0 10 8 = some r5 ∧ (if a2 = 1 then (zRn X d kc ks MX11_jumper 39 [none, none, none, some (.int a3), none] [.int 1, .ref r2, .ref r5] w3 Q) else (zRn X d kc ks MX11_jumper 39 [none, none, none, some (.int a3), none] [.int 0, .ref r2, .ref r5] w3 Q)))))) :
    zRn X d kc ks MX11_jumper 0 [some (.ref p0), some (.int a1), some (.int a2), some (.int a3), none] [] w Q := by
  refine z_aload_n p0 dX11_jumper_0 rfl rfl ?_
  refine z_iload_n a1 dX11_jumper_1 rfl rfl ?_
  refine z_iload_n a3 dX11_jumper_2 rfl rfl ?_
  refine zq_VO (N := MX11_orderWith) (As := [.int a1, .int a3]) m_X11_156 dX11_jumper_3 rfl rfl (Nat.le_of_ble_eq_true rfl) h (fun w1 h => ?_) (fun r2 w1 h => ?_)
  · refine z_nstore (i := 4) dX11_jumper_6 (by decide) rfl ?_
    refine z_nload dX11_jumper_8 rfl ?_
    refine z_ifnullN 20 dX11_jumper_10 rfl ?_
    refine z_bipush (-2) dX11_jumper_20 rfl ?_
    exact z_ireturn .int dX11_jumper_22 rfl rfl h
  · refine z_astore (i := 4) dX11_jumper_6 (by decide) rfl ?_
    refine z_aload r2 dX11_jumper_8 rfl ?_
    refine z_ifnull dX11_jumper_10 ?_
    refine z_iload_n a2 dX11_jumper_13 rfl rfl ?_
    refine zq_SI (N := MX11_isBit) (As := [.int a2]) m_X11_218 dX11_jumper_14 rfl rfl (Nat.le_of_ble_eq_true rfl) h (fun x4 w3 h => ?_)
    refine z_if_ne 23 dX11_jumper_17 rfl (fun hc => ?_) (fun hc => ?_)
    · rw [if_neg hc] at h
      refine z_aload_n p0 dX11_jumper_23 rfl rfl ?_
      obtain ⟨r5, e, h⟩ := h
      refine zq_fR f_X11_65 dX11_jumper_24 e ?_
      refine z_aload r2 dX11_jumper_27 rfl ?_
      refine z_iload_n a2 dX11_jumper_29 rfl rfl ?_
      refine z_iconst 1 dX11_jumper_30 rfl ?_
      refine z_icmp_ne 38 dX11_jumper_31 rfl (fun hc => ?_) (fun hc => ?_)
      · rw [if_neg hc] at h
        refine z_iconst 0 dX11_jumper_38 rfl ?_
        exact zRn.weak h (zLe_of [false, false, false, true, false] (And.intro rfl (And.intro rfl (And.intro rfl (And.intro rfl (And.intro rfl (trivial)))))))
      · rw [if_pos hc] at h
        refine z_iconst 1 dX11_jumper_34 rfl ?_
        refine z_goto 39 dX11_jumper_35 rfl ?_
        exact zRn.weak h (zLe_of [false, false, false, true, false] (And.intro rfl (And.intro rfl (And.intro rfl (And.intro rfl (And.intro rfl (trivial)))))))
    · rw [if_pos hc] at h
      refine z_bipush (-2) dX11_jumper_20 rfl ?_
      exact z_ireturn .int dX11_jumper_22 rfl rfl h
set_option maxRecDepth 100000 in
set_option maxHeartbeats 4000000 in
theorem bX11_jumper_39 {X : zX} {d kc ks : Nat} {w : zW} {Q : Option Value → zW → Prop} (v3 : Int32) (u0 : Int32) (u1 : Nat) (u2 : Nat)
    (h : zIs w u2 2 ∧ zCallI X d MX2_thingAt [.ref u2, .ref u1, .int u0, .int v3] w (fun x2 w1 => Q (some (.int x2)) w1)) :
    zRn X d kc ks MX11_jumper 39 [none, none, none, some (.int v3), none] [.int u0, .ref u1, .ref u2] w Q := by
  refine z_iload_n v3 dX11_jumper_39 rfl rfl ?_
  refine zq_VI (N := MX2_thingAt) (As := [.ref u1, .int u0, .int v3]) m_X11_254 dX11_jumper_40 rfl rfl (Nat.le_of_ble_eq_true rfl) h (fun x2 w1 h => ?_)
  exact z_ireturn .int dX11_jumper_43 rfl rfl h
theorem eX11_jumper {X : zX} {d kc ks : Nat} {w : zW} {Q : Option Value → zW → Prop} (p0 : Nat) (a1 : Int32) (a2 : Int32) (a3 : Int32) (h : zRn X d kc ks MX11_jumper 0 [some (.ref p0), some (.int a1), some (.int a2), some (.int a3), none] [] w Q) : zEv X d kc ks MX11_jumper [.ref p0, .int a1, .int a2, .int a3] w Q :=
  zEv.of (by decide) (Nat.le_of_ble_eq_true rfl) (Or.inr (by simp [Value.category])) h
set_option maxRecDepth 100000 in
set_option maxHeartbeats 4000000 in
theorem bX11_jumpsOf_0 {X : zX} {d kc ks : Nat} {w : zW} {Q : Option Value → zW → Prop} (p0 : Nat) (a1 : Int32) (a2 : Int32)
    (h : zIs w p0 10 ∧ zCallO X d MX11_orderWithRow [.ref p0, .int a1, .int a2] w (fun w1 => Q (some (.int (-2))) w1) (fun r2 w1 => zIs w1 r2 5 ∧ zCallI X d MX5_jumpsIn [.ref r2, .int a2] w1 (fun x4 w3 => Q (some (.int x4)) w3))) :
    zRn X d kc ks MX11_jumpsOf 0 [some (.ref p0), some (.int a1), some (.int a2), none] [] w Q := by
  refine z_aload_n p0 dX11_jumpsOf_0 rfl rfl ?_
  refine z_iload_n a1 dX11_jumpsOf_1 rfl rfl ?_
  refine z_iload_n a2 dX11_jumpsOf_2 rfl rfl ?_
  refine zq_VO (N := MX11_orderWithRow) (As := [.int a1, .int a2]) m_X11_212 dX11_jumpsOf_3 rfl rfl (Nat.le_of_ble_eq_true rfl) h (fun w1 h => ?_) (fun r2 w1 h => ?_)
  · refine z_nstore_n (i := 3) dX11_jumpsOf_6 rfl (by decide) rfl ?_
    refine z_nload_n dX11_jumpsOf_7 rfl rfl ?_
    refine z_ifnonnullN dX11_jumpsOf_8 ?_
    refine z_bipush (-2) dX11_jumpsOf_11 rfl ?_
    refine z_goto 21 dX11_jumpsOf_13 rfl ?_
    exact z_ireturn .int dX11_jumpsOf_21 rfl rfl h
  · refine z_astore_n (i := 3) dX11_jumpsOf_6 rfl (by decide) rfl ?_
    refine z_aload_n r2 dX11_jumpsOf_7 rfl rfl ?_
    refine z_ifnonnull 16 dX11_jumpsOf_8 rfl ?_
    refine z_aload_n r2 dX11_jumpsOf_16 rfl rfl ?_
    refine z_iload_n a2 dX11_jumpsOf_17 rfl rfl ?_
    refine zq_VI (N := MX5_jumpsIn) (As := [.int a2]) m_X11_257 dX11_jumpsOf_18 rfl rfl (Nat.le_of_ble_eq_true rfl) h (fun x4 w3 h => ?_)
    exact z_ireturn .int dX11_jumpsOf_21 rfl rfl h
theorem eX11_jumpsOf {X : zX} {d kc ks : Nat} {w : zW} {Q : Option Value → zW → Prop} (p0 : Nat) (a1 : Int32) (a2 : Int32) (h : zRn X d kc ks MX11_jumpsOf 0 [some (.ref p0), some (.int a1), some (.int a2), none] [] w Q) : zEv X d kc ks MX11_jumpsOf [.ref p0, .int a1, .int a2] w Q :=
  zEv.of (by decide) (Nat.le_of_ble_eq_true rfl) (Or.inr (by simp [Value.category])) h
set_option maxRecDepth 100000 in
set_option maxHeartbeats 4000000 in
theorem bX11_critical_0 {X : zX} {d kc ks : Nat} {w : zW} {Q : Option Value → zW → Prop} (p0 : Nat) (a1 : Int32) (a2 : Int32)
    (h : zIs w p0 10 ∧ zCallO X d MX11_orderIn [.ref p0, .int a1] w (fun w1 => Q (some (.int (-2))) w1) (fun r2 w1 => if (-1) ≤ a2 then (∃ r3, zfR w1 p0 10 9 = some r3 ∧ (zIs w1 r3 9 ∧ zCallV X d MX9_collect [.ref r3, .ref r2] w1 (fun w4 => if a2 = (-1) then (∃ r8, zfR w4 p0 10 9 = some r8 ∧ (zIs w4 r8 9 ∧ zCallI X d MX9_size [.ref r8] w4 (fun x10 w9 => Q (some (.int x10)) w9))) else (∃ r5, zfR w4 p0 10 9 = some r5 ∧ (zIs w4 r5 9 ∧ zCallI X d MX9_twoAt [.ref r5, .int a2] w4 (fun x7 w6 => Q (some (.int x7)) w6)))))) else (Q (some (.int (-2))) w1))) :
    zRn X d kc ks MX11_critical 0 [some (.ref p0), some (.int a1), some (.int a2), none] [] w Q := by
  refine z_aload_n p0 dX11_critical_0 rfl rfl ?_
  refine z_iload_n a1 dX11_critical_1 rfl rfl ?_
  refine zq_VO (N := MX11_orderIn) (As := [.int a1]) m_X11_117 dX11_critical_2 rfl rfl (Nat.le_of_ble_eq_true rfl) h (fun w1 h => ?_) (fun r2 w1 h => ?_)
  · refine z_nstore_n (i := 3) dX11_critical_5 rfl (by decide) rfl ?_
    refine z_nload_n dX11_critical_6 rfl rfl ?_
    refine z_ifnullN 15 dX11_critical_7 rfl ?_
    refine z_bipush (-2) dX11_critical_15 rfl ?_
    exact z_ireturn .int dX11_critical_17 rfl rfl h
  · refine z_astore_n (i := 3) dX11_critical_5 rfl (by decide) rfl ?_
    refine z_aload_n r2 dX11_critical_6 rfl rfl ?_
    refine z_ifnull dX11_critical_7 ?_
    refine z_iload_n a2 dX11_critical_10 rfl rfl ?_
    refine z_iconst (-1) dX11_critical_11 rfl ?_
    refine z_icmp_ge 18 dX11_critical_12 rfl (fun hc => ?_) (fun hc => ?_)
    · rw [if_pos hc] at h
      refine z_aload_n p0 dX11_critical_18 rfl rfl ?_
      obtain ⟨r3, e, h⟩ := h
      refine zq_fR f_X11_72 dX11_critical_19 e ?_
      refine z_aload_n r2 dX11_critical_22 rfl rfl ?_
      refine zq_VV (N := MX9_collect) (As := [.ref r2]) m_X11_260 dX11_critical_23 rfl rfl (Nat.le_of_ble_eq_true rfl) h (fun w4 h => ?_)
      refine z_iload_n a2 dX11_critical_26 rfl rfl ?_
      refine z_iconst (-1) dX11_critical_27 rfl ?_
      refine z_icmp_ne 41 dX11_critical_28 rfl (fun hc => ?_) (fun hc => ?_)
      · rw [if_neg hc] at h
        refine z_aload_n p0 dX11_critical_41 rfl rfl ?_
        obtain ⟨r5, e, h⟩ := h
        refine zq_fR f_X11_72 dX11_critical_42 e ?_
        refine z_iload_n a2 dX11_critical_45 rfl rfl ?_
        refine zq_VI (N := MX9_twoAt) (As := [.int a2]) m_X11_265 dX11_critical_46 rfl rfl (Nat.le_of_ble_eq_true rfl) h (fun x7 w6 h => ?_)
        exact z_ireturn .int dX11_critical_49 rfl rfl h
      · rw [if_pos hc] at h
        refine z_aload_n p0 dX11_critical_31 rfl rfl ?_
        obtain ⟨r8, e, h⟩ := h
        refine zq_fR f_X11_72 dX11_critical_32 e ?_
        refine zq_VI (N := MX9_size) (As := []) m_X11_264 dX11_critical_35 rfl rfl (Nat.le_of_ble_eq_true rfl) h (fun x10 w9 h => ?_)
        refine z_goto 49 dX11_critical_38 rfl ?_
        exact z_ireturn .int dX11_critical_49 rfl rfl h
    · rw [if_neg hc] at h
      refine z_bipush (-2) dX11_critical_15 rfl ?_
      exact z_ireturn .int dX11_critical_17 rfl rfl h
theorem eX11_critical {X : zX} {d kc ks : Nat} {w : zW} {Q : Option Value → zW → Prop} (p0 : Nat) (a1 : Int32) (a2 : Int32) (h : zRn X d kc ks MX11_critical 0 [some (.ref p0), some (.int a1), some (.int a2), none] [] w Q) : zEv X d kc ks MX11_critical [.ref p0, .int a1, .int a2] w Q :=
  zEv.of (by decide) (Nat.le_of_ble_eq_true rfl) (Or.inr (by simp [Value.category])) h
set_option maxRecDepth 100000 in
set_option maxHeartbeats 4000000 in
theorem bX11_reversed_0 {X : zX} {d kc ks : Nat} {w : zW} {Q : Option Value → zW → Prop} (p0 : Nat) (a1 : Int32) (a2 : Int32)
    (h : zIs w p0 10 ∧ zCallO X d MX11_orderWithRow [.ref p0, .int a1, .int a2] w (fun w1 => Q (some (.int (-2))) w1) (fun r2 w1 => ∃ r3, zfR w1 p0 10 9 = some r3 ∧ (zIs w1 r3 9 ∧ zCallV X d MX9_collect [.ref r3, .ref r2] w1 (fun w4 => ∃ r5, zfR w4 p0 10 9 = some r5 ∧ (zIs w4 r5 9 ∧ zCallI X d MX9_turnedBy [.ref r5, .ref r2, .int a2] w4 (fun x7 w6 => Q (some (.int x7)) w6)))))) :
    zRn X d kc ks MX11_reversed 0 [some (.ref p0), some (.int a1), some (.int a2), none] [] w Q := by
  refine z_aload_n p0 dX11_reversed_0 rfl rfl ?_
  refine z_iload_n a1 dX11_reversed_1 rfl rfl ?_
  refine z_iload_n a2 dX11_reversed_2 rfl rfl ?_
  refine zq_VO (N := MX11_orderWithRow) (As := [.int a1, .int a2]) m_X11_212 dX11_reversed_3 rfl rfl (Nat.le_of_ble_eq_true rfl) h (fun w1 h => ?_) (fun r2 w1 h => ?_)
  · refine z_nstore_n (i := 3) dX11_reversed_6 rfl (by decide) rfl ?_
    refine z_nload_n dX11_reversed_7 rfl rfl ?_
    refine z_ifnonnullN dX11_reversed_8 ?_
    refine z_bipush (-2) dX11_reversed_11 rfl ?_
    exact z_ireturn .int dX11_reversed_13 rfl rfl h
  · refine z_astore_n (i := 3) dX11_reversed_6 rfl (by decide) rfl ?_
    refine z_aload_n r2 dX11_reversed_7 rfl rfl ?_
    refine z_ifnonnull 14 dX11_reversed_8 rfl ?_
    refine z_aload_n p0 dX11_reversed_14 rfl rfl ?_
    obtain ⟨r3, e, h⟩ := h
    refine zq_fR f_X11_72 dX11_reversed_15 e ?_
    refine z_aload_n r2 dX11_reversed_18 rfl rfl ?_
    refine zq_VV (N := MX9_collect) (As := [.ref r2]) m_X11_260 dX11_reversed_19 rfl rfl (Nat.le_of_ble_eq_true rfl) h (fun w4 h => ?_)
    refine z_aload_n p0 dX11_reversed_22 rfl rfl ?_
    obtain ⟨r5, e, h⟩ := h
    refine zq_fR f_X11_72 dX11_reversed_23 e ?_
    refine z_aload_n r2 dX11_reversed_26 rfl rfl ?_
    refine z_iload_n a2 dX11_reversed_27 rfl rfl ?_
    refine zq_VI (N := MX9_turnedBy) (As := [.ref r2, .int a2]) m_X11_268 dX11_reversed_28 rfl rfl (Nat.le_of_ble_eq_true rfl) h (fun x7 w6 h => ?_)
    exact z_ireturn .int dX11_reversed_31 rfl rfl h
theorem eX11_reversed {X : zX} {d kc ks : Nat} {w : zW} {Q : Option Value → zW → Prop} (p0 : Nat) (a1 : Int32) (a2 : Int32) (h : zRn X d kc ks MX11_reversed 0 [some (.ref p0), some (.int a1), some (.int a2), none] [] w Q) : zEv X d kc ks MX11_reversed [.ref p0, .int a1, .int a2] w Q :=
  zEv.of (by decide) (Nat.le_of_ble_eq_true rfl) (Or.inr (by simp [Value.category])) h
set_option maxRecDepth 100000 in
set_option maxHeartbeats 4000000 in
theorem bX11_rowsAre_0 {X : zX} {d kc ks : Nat} {w : zW} {Q : Option Value → zW → Prop} (p0 : Nat) (a1 : Int32) (a2 : Int32)
    (h : zIs w p0 10 ∧ zCallO X d MX11_orderIn [.ref p0, .int a1] w (fun w1 => Q (some (.int (-2))) w1) (fun r2 w1 => (a2 = 0 → (zIs w1 r2 5 ∧ zCallI X d MX5_allRowsAreLines [.ref r2] w1 (fun x4 w3 => zCallI X d MX11_bit [.int x4] w3 (fun x6 w5 => Q (some (.int x6)) w5)))) ∧ (a2 = 1 → (zIs w1 r2 5 ∧ zCallI X d MX5_rowsRealize [.ref r2] w1 (fun x8 w7 => zCallI X d MX11_bit [.int x8] w7 (fun x10 w9 => Q (some (.int x10)) w9)))) ∧ (a2 = 2 → (zIs w1 r2 5 ∧ zCallR X d MX5_rows [.ref r2] w1 (fun r12 w11 => zIs w11 r2 5 ∧ zCallI X d MX5_size [.ref r2] w11 (fun x14 w13 => zIs w13 r12 8 ∧ zCallI X d MX8_allUnlike [.ref r12, .int x14] w13 (fun x16 w15 => zCallI X d MX11_bit [.int x16] w15 (fun x18 w17 => Q (some (.int x18)) w17)))))) ∧ (¬ (0 ≤ a2 ∧ a2 < 3) → (Q (some (.int (-2))) w1)))) :
    zRn X d kc ks MX11_rowsAre 0 [some (.ref p0), some (.int a1), some (.int a2), none] [] w Q := by
  refine z_aload_n p0 dX11_rowsAre_0 rfl rfl ?_
  refine z_iload_n a1 dX11_rowsAre_1 rfl rfl ?_
  refine zq_VO (N := MX11_orderIn) (As := [.int a1]) m_X11_117 dX11_rowsAre_2 rfl rfl (Nat.le_of_ble_eq_true rfl) h (fun w1 h => ?_) (fun r2 w1 h => ?_)
  · refine z_nstore_n (i := 3) dX11_rowsAre_5 rfl (by decide) rfl ?_
    refine z_nload_n dX11_rowsAre_6 rfl rfl ?_
    refine z_ifnonnullN dX11_rowsAre_7 ?_
    refine z_bipush (-2) dX11_rowsAre_10 rfl ?_
    exact z_ireturn .int dX11_rowsAre_12 rfl rfl h
  · refine z_astore_n (i := 3) dX11_rowsAre_5 rfl (by decide) rfl ?_
    refine z_aload_n r2 dX11_rowsAre_6 rfl rfl ?_
    refine z_ifnonnull 13 dX11_rowsAre_7 rfl ?_
    refine z_iload_n a2 dX11_rowsAre_13 rfl rfl ?_
    rcases pk_ix a2 (n := 3) (by decide) with hx | hx | ⟨j, hj, hx⟩
    · refine z_tableOut 71 dX11_rowsAre_14 (zsw_lo hx) rfl ?_
      have h := h.2.2.2 (fun q => absurd hx (Int32.not_lt.mpr q.1))
      refine z_bipush (-2) dX11_rowsAre_71 rfl ?_
      exact z_ireturn .int dX11_rowsAre_73 rfl rfl h
    · refine z_tableOut 71 dX11_rowsAre_14 (zsw_hi (n := 3) (by decide) rfl hx) rfl ?_
      have h := h.2.2.2 (fun q => absurd q.2 (Int32.not_lt.mpr hx))
      refine z_bipush (-2) dX11_rowsAre_71 rfl ?_
      exact z_ireturn .int dX11_rowsAre_73 rfl rfl h
    · rcases (show j = 0 ∨ j = 1 ∨ j = 2 by omega) with rfl | rfl | rfl
      · refine z_tableIn 40 dX11_rowsAre_14 (by rw [hx]; decide) (by rw [hx]; decide) (by rw [hx]; rfl) rfl ?_
        have h := h.1 hx
        refine z_aload_n r2 dX11_rowsAre_40 rfl rfl ?_
        refine zq_VI (N := MX5_allRowsAreLines) (As := []) m_X11_271 dX11_rowsAre_41 rfl rfl (Nat.le_of_ble_eq_true rfl) h (fun x4 w3 h => ?_)
        refine zq_SI (N := MX11_bit) (As := [.int x4]) m_X11_175 dX11_rowsAre_44 rfl rfl (Nat.le_of_ble_eq_true rfl) h (fun x6 w5 h => ?_)
        exact z_ireturn .int dX11_rowsAre_47 rfl rfl h
      · refine z_tableIn 48 dX11_rowsAre_14 (by rw [hx]; decide) (by rw [hx]; decide) (by rw [hx]; rfl) rfl ?_
        have h := h.2.1 hx
        refine z_aload_n r2 dX11_rowsAre_48 rfl rfl ?_
        refine zq_VI (N := MX5_rowsRealize) (As := []) m_X11_275 dX11_rowsAre_49 rfl rfl (Nat.le_of_ble_eq_true rfl) h (fun x8 w7 h => ?_)
        refine zq_SI (N := MX11_bit) (As := [.int x8]) m_X11_175 dX11_rowsAre_52 rfl rfl (Nat.le_of_ble_eq_true rfl) h (fun x10 w9 h => ?_)
        exact z_ireturn .int dX11_rowsAre_55 rfl rfl h
      · refine z_tableIn 56 dX11_rowsAre_14 (by rw [hx]; decide) (by rw [hx]; decide) (by rw [hx]; rfl) rfl ?_
        have h := h.2.2.1 hx
        refine z_aload_n r2 dX11_rowsAre_56 rfl rfl ?_
        refine zq_VR (N := MX5_rows) (As := []) m_X11_149 dX11_rowsAre_57 rfl rfl (Nat.le_of_ble_eq_true rfl) h (fun r12 w11 h => ?_)
        refine z_aload_n r2 dX11_rowsAre_60 rfl rfl ?_
        refine zq_VI (N := MX5_size) (As := []) m_X11_121 dX11_rowsAre_61 rfl rfl (Nat.le_of_ble_eq_true rfl) h (fun x14 w13 h => ?_)
        refine zq_VI (N := MX8_allUnlike) (As := [.int x14]) m_X11_278 dX11_rowsAre_64 rfl rfl (Nat.le_of_ble_eq_true rfl) h (fun x16 w15 h => ?_)
        refine zq_SI (N := MX11_bit) (As := [.int x16]) m_X11_175 dX11_rowsAre_67 rfl rfl (Nat.le_of_ble_eq_true rfl) h (fun x18 w17 h => ?_)
        exact z_ireturn .int dX11_rowsAre_70 rfl rfl h
theorem eX11_rowsAre {X : zX} {d kc ks : Nat} {w : zW} {Q : Option Value → zW → Prop} (p0 : Nat) (a1 : Int32) (a2 : Int32) (h : zRn X d kc ks MX11_rowsAre 0 [some (.ref p0), some (.int a1), some (.int a2), none] [] w Q) : zEv X d kc ks MX11_rowsAre [.ref p0, .int a1, .int a2] w Q :=
  zEv.of (by decide) (Nat.le_of_ble_eq_true rfl) (Or.inr (by simp [Value.category])) h
set_option maxRecDepth 100000 in
set_option maxHeartbeats 4000000 in
theorem bX11_ahead_0 {X : zX} {d kc ks : Nat} {w : zW} {Q : Option Value → zW → Prop} (p0 : Nat) (a1 : Int32) (a2 : Int32)
    (h : zIs w p0 10 ∧ zCallO X d MX11_orderWith [.ref p0, .int a1, .int a2] w (fun w1 => Q (some (.int (-2))) w1) (fun r2 w1 => zIs w1 r2 5 ∧ zCallI X d MX5_alwaysAheadOf [.ref r2, .int a2] w1 (fun x4 w3 => Q (some (.int x4)) w3))) :
    zRn X d kc ks MX11_ahead 0 [some (.ref p0), some (.int a1), some (.int a2), none] [] w Q := by
  refine z_aload_n p0 dX11_ahead_0 rfl rfl ?_
  refine z_iload_n a1 dX11_ahead_1 rfl rfl ?_
  refine z_iload_n a2 dX11_ahead_2 rfl rfl ?_
  refine zq_VO (N := MX11_orderWith) (As := [.int a1, .int a2]) m_X11_156 dX11_ahead_3 rfl rfl (Nat.le_of_ble_eq_true rfl) h (fun w1 h => ?_) (fun r2 w1 h => ?_)
  · refine z_nstore_n (i := 3) dX11_ahead_6 rfl (by decide) rfl ?_
    refine z_nload_n dX11_ahead_7 rfl rfl ?_
    refine z_ifnonnullN dX11_ahead_8 ?_
    refine z_bipush (-2) dX11_ahead_11 rfl ?_
    refine z_goto 21 dX11_ahead_13 rfl ?_
    exact z_ireturn .int dX11_ahead_21 rfl rfl h
  · refine z_astore_n (i := 3) dX11_ahead_6 rfl (by decide) rfl ?_
    refine z_aload_n r2 dX11_ahead_7 rfl rfl ?_
    refine z_ifnonnull 16 dX11_ahead_8 rfl ?_
    refine z_aload_n r2 dX11_ahead_16 rfl rfl ?_
    refine z_iload_n a2 dX11_ahead_17 rfl rfl ?_
    refine zq_VI (N := MX5_alwaysAheadOf) (As := [.int a2]) m_X11_281 dX11_ahead_18 rfl rfl (Nat.le_of_ble_eq_true rfl) h (fun x4 w3 h => ?_)
    exact z_ireturn .int dX11_ahead_21 rfl rfl h
theorem eX11_ahead {X : zX} {d kc ks : Nat} {w : zW} {Q : Option Value → zW → Prop} (p0 : Nat) (a1 : Int32) (a2 : Int32) (h : zRn X d kc ks MX11_ahead 0 [some (.ref p0), some (.int a1), some (.int a2), none] [] w Q) : zEv X d kc ks MX11_ahead [.ref p0, .int a1, .int a2] w Q :=
  zEv.of (by decide) (Nat.le_of_ble_eq_true rfl) (Or.inr (by simp [Value.category])) h
set_option maxRecDepth 100000 in
set_option maxHeartbeats 4000000 in
theorem bX11_realizes_0 {X : zX} {d kc ks : Nat} {w : zW} {Q : Option Value → zW → Prop} (p0 : Nat) (a1 : Int32) (a2 : Int32) (a3 : Int32)
    (h : zIs w p0 10 ∧ zCallO X d MX11_orderIn [.ref p0, .int a1] w (fun w1 => Q (some (.int (-2))) w1) (fun r2 w1 => if a2 < 1 then (Q (some (.int (-2))) w1) else (if 4 < a2 then (Q (some (.int (-2))) w1) else (zCallI X d MX11_areTries [.int a3] w1 (fun x4 w3 => if x4 = 0 then (Q (some (.int (-2))) w3) else (∃ r5, zfR w3 p0 10 9 = some r5 ∧ (zIs w3 r5 9 ∧ zCallI X d MX9_run [.ref r5, .ref r2, .int a2, .int a3] w3 (fun x7 w6 => if x7 < 0 then (Q (some (.int x7)) w6) else (∃ r8, zfR w6 p0 10 1 = some r8 ∧ (zIs w6 r8 5 ∧ zCallV X d MX5_copyFrom [.ref r8, .ref r2] w6 (fun w9 => ∃ r10, zfR w9 p0 10 9 = some r10 ∧ (∃ r11, zfR w9 p0 10 1 = some r11 ∧ (zIs w9 r11 5 ∧ zCallR X d MX5_rows [.ref r11] w9 (fun r13 w12 => zIs w12 r10 9 ∧ zCallV X d MX9_writeRows [.ref r10, .ref r2, .int a2, .ref r13] w12 (fun w14 => zIs w14 p0 10 ∧ zCallV X d MX11_become [.ref p0, .int a1] w14 (fun w15 => Q (some (.int x7)) w15)))))))))))))))) :
    zRn X d kc ks MX11_realizes 0 [some (.ref p0), some (.int a1), some (.int a2), some (.int a3), none, none] [] w Q := by
  refine z_aload_n p0 dX11_realizes_0 rfl rfl ?_
  refine z_iload_n a1 dX11_realizes_1 rfl rfl ?_
  refine zq_VO (N := MX11_orderIn) (As := [.int a1]) m_X11_117 dX11_realizes_2 rfl rfl (Nat.le_of_ble_eq_true rfl) h (fun w1 h => ?_) (fun r2 w1 h => ?_)
  · refine z_nstore (i := 4) dX11_realizes_5 (by decide) rfl ?_
    refine z_nload dX11_realizes_7 rfl ?_
    refine z_ifnullN 29 dX11_realizes_9 rfl ?_
    refine z_bipush (-2) dX11_realizes_29 rfl ?_
    exact z_ireturn .int dX11_realizes_31 rfl rfl h
  · refine z_astore (i := 4) dX11_realizes_5 (by decide) rfl ?_
    refine z_aload r2 dX11_realizes_7 rfl ?_
    refine z_ifnull dX11_realizes_9 ?_
    refine z_iload_n a2 dX11_realizes_12 rfl rfl ?_
    refine z_iconst 1 dX11_realizes_13 rfl ?_
    refine z_icmp_lt 29 dX11_realizes_14 rfl (fun hc => ?_) (fun hc => ?_)
    · rw [if_pos hc] at h
      refine z_bipush (-2) dX11_realizes_29 rfl ?_
      exact z_ireturn .int dX11_realizes_31 rfl rfl h
    · rw [if_neg hc] at h
      refine z_iload_n a2 dX11_realizes_17 rfl rfl ?_
      refine z_iconst 4 dX11_realizes_18 rfl ?_
      refine z_icmp_gt 29 dX11_realizes_19 rfl (fun hc => ?_) (fun hc => ?_)
      · rw [if_pos hc] at h
        refine z_bipush (-2) dX11_realizes_29 rfl ?_
        exact z_ireturn .int dX11_realizes_31 rfl rfl h
      · rw [if_neg hc] at h
        refine z_iload_n a3 dX11_realizes_22 rfl rfl ?_
        refine zq_SI (N := MX11_areTries) (As := [.int a3]) m_X11_284 dX11_realizes_23 rfl rfl (Nat.le_of_ble_eq_true rfl) h (fun x4 w3 h => ?_)
        refine z_if_ne 32 dX11_realizes_26 rfl (fun hc => ?_) (fun hc => ?_)
        · rw [if_neg hc] at h
          refine z_aload_n p0 dX11_realizes_32 rfl rfl ?_
          obtain ⟨r5, e, h⟩ := h
          refine zq_fR f_X11_72 dX11_realizes_33 e ?_
          refine z_aload r2 dX11_realizes_36 rfl ?_
          refine z_iload_n a2 dX11_realizes_38 rfl rfl ?_
          refine z_iload_n a3 dX11_realizes_39 rfl rfl ?_
          refine zq_VI (N := MX9_run) (As := [.ref r2, .int a2, .int a3]) m_X11_287 dX11_realizes_40 rfl rfl (Nat.le_of_ble_eq_true rfl) h (fun x7 w6 h => ?_)
          refine z_istore (i := 5) dX11_realizes_43 (by decide) rfl ?_
          refine z_iload x7 dX11_realizes_45 rfl ?_
          refine z_if_lt 81 dX11_realizes_47 rfl (fun hc => ?_) (fun hc => ?_)
          · rw [if_pos hc] at h
            refine z_iload x7 dX11_realizes_81 rfl ?_
            exact z_ireturn .int dX11_realizes_83 rfl rfl h
          · rw [if_neg hc] at h
            refine z_aload_n p0 dX11_realizes_50 rfl rfl ?_
            obtain ⟨r8, e, h⟩ := h
            refine zq_fR f_X11_16 dX11_realizes_51 e ?_
            refine z_aload r2 dX11_realizes_54 rfl ?_
            refine zq_VV (N := MX5_copyFrom) (As := [.ref r2]) m_X11_290 dX11_realizes_56 rfl rfl (Nat.le_of_ble_eq_true rfl) h (fun w9 h => ?_)
            refine z_aload_n p0 dX11_realizes_59 rfl rfl ?_
            obtain ⟨r10, e, h⟩ := h
            refine zq_fR f_X11_72 dX11_realizes_60 e ?_
            refine z_aload r2 dX11_realizes_63 rfl ?_
            refine z_iload_n a2 dX11_realizes_65 rfl rfl ?_
            refine z_aload_n p0 dX11_realizes_66 rfl rfl ?_
            obtain ⟨r11, e, h⟩ := h
            refine zq_fR f_X11_16 dX11_realizes_67 e ?_
            refine zq_VR (N := MX5_rows) (As := []) m_X11_149 dX11_realizes_70 rfl rfl (Nat.le_of_ble_eq_true rfl) h (fun r13 w12 h => ?_)
            refine zq_VV (N := MX9_writeRows) (As := [.ref r2, .int a2, .ref r13]) m_X11_293 dX11_realizes_73 rfl rfl (Nat.le_of_ble_eq_true rfl) h (fun w14 h => ?_)
            refine z_aload_n p0 dX11_realizes_76 rfl rfl ?_
            refine z_iload_n a1 dX11_realizes_77 rfl rfl ?_
            refine zq_VV (N := MX11_become) (As := [.int a1]) m_X11_101 dX11_realizes_78 rfl rfl (Nat.le_of_ble_eq_true rfl) h (fun w15 h => ?_)
            refine z_iload x7 dX11_realizes_81 rfl ?_
            exact z_ireturn .int dX11_realizes_83 rfl rfl h
        · rw [if_pos hc] at h
          refine z_bipush (-2) dX11_realizes_29 rfl ?_
          exact z_ireturn .int dX11_realizes_31 rfl rfl h
theorem eX11_realizes {X : zX} {d kc ks : Nat} {w : zW} {Q : Option Value → zW → Prop} (p0 : Nat) (a1 : Int32) (a2 : Int32) (a3 : Int32) (h : zRn X d kc ks MX11_realizes 0 [some (.ref p0), some (.int a1), some (.int a2), some (.int a3), none, none] [] w Q) : zEv X d kc ks MX11_realizes [.ref p0, .int a1, .int a2, .int a3] w Q :=
  zEv.of (by decide) (Nat.le_of_ble_eq_true rfl) (Or.inr (by simp [Value.category])) h
set_option maxRecDepth 100000 in
set_option maxHeartbeats 4000000 in
theorem bX11_areTries_0 {X : zX} {d kc ks : Nat} {w : zW} {Q : Option Value → zW → Prop} (a0 : Int32)
    (h : if a0 < 1 then (Q (some (.int 0)) w) else (if 100000 < a0 then (Q (some (.int 0)) w) else (Q (some (.int 1)) w))) :
    zRn X d kc ks MX11_areTries 0 [some (.int a0)] [] w Q := by
  refine z_iload_n a0 dX11_areTries_0 rfl rfl ?_
  refine z_iconst 1 dX11_areTries_1 rfl ?_
  refine z_icmp_lt 16 dX11_areTries_2 rfl (fun hc => ?_) (fun hc => ?_)
  · rw [if_pos hc] at h
    refine z_iconst 0 dX11_areTries_16 rfl ?_
    exact z_ireturn .boolean dX11_areTries_17 rfl rfl h
  · rw [if_neg hc] at h
    refine z_iload_n a0 dX11_areTries_5 rfl rfl ?_
    refine z_ldcw 100000 g_1012 dX11_areTries_6 ?_
    refine z_icmp_gt 16 dX11_areTries_9 rfl (fun hc => ?_) (fun hc => ?_)
    · rw [if_pos hc] at h
      refine z_iconst 0 dX11_areTries_16 rfl ?_
      exact z_ireturn .boolean dX11_areTries_17 rfl rfl h
    · rw [if_neg hc] at h
      refine z_iconst 1 dX11_areTries_12 rfl ?_
      refine z_goto 17 dX11_areTries_13 rfl ?_
      exact z_ireturn .boolean dX11_areTries_17 rfl rfl h
theorem eX11_areTries {X : zX} {d kc ks : Nat} {w : zW} {Q : Option Value → zW → Prop} (a0 : Int32) (h : zRn X d kc ks MX11_areTries 0 [some (.int a0)] [] w Q) : zEv X d kc ks MX11_areTries [.int a0] w Q :=
  zEv.of (by decide) (Nat.le_of_ble_eq_true rfl) (Or.inr (by simp [Value.category])) h
set_option maxRecDepth 100000 in
set_option maxHeartbeats 4000000 in
theorem bX11_dimension_0 {X : zX} {d kc ks : Nat} {w : zW} {Q : Option Value → zW → Prop} (p0 : Nat) (a1 : Int32) (a2 : Int32)
    (h : zIs w p0 10 ∧ zCallO X d MX11_orderIn [.ref p0, .int a1] w (fun w1 => Q (some (.int (-2))) w1) (fun r2 w1 => zCallI X d MX11_areTries [.int a2] w1 (fun x4 w3 => if x4 = 0 then (Q (some (.int (-2))) w3) else (zRn X d kc ks MX11_dimension 23 [some (.ref p0), none, some (.int a2), some (.ref r2), some (.int 1), none] [] w3 Q)))) :
    zRn X d kc ks MX11_dimension 0 [some (.ref p0), some (.int a1), some (.int a2), none, none, none] [] w Q := by
  refine z_aload_n p0 dX11_dimension_0 rfl rfl ?_
  refine z_iload_n a1 dX11_dimension_1 rfl rfl ?_
  refine zq_VO (N := MX11_orderIn) (As := [.int a1]) m_X11_117 dX11_dimension_2 rfl rfl (Nat.le_of_ble_eq_true rfl) h (fun w1 h => ?_) (fun r2 w1 h => ?_)
  · refine z_nstore_n (i := 3) dX11_dimension_5 rfl (by decide) rfl ?_
    refine z_nload_n dX11_dimension_6 rfl rfl ?_
    refine z_ifnullN 17 dX11_dimension_7 rfl ?_
    refine z_bipush (-2) dX11_dimension_17 rfl ?_
    exact z_ireturn .int dX11_dimension_19 rfl rfl h
  · refine z_astore_n (i := 3) dX11_dimension_5 rfl (by decide) rfl ?_
    refine z_aload_n r2 dX11_dimension_6 rfl rfl ?_
    refine z_ifnull dX11_dimension_7 ?_
    refine z_iload_n a2 dX11_dimension_10 rfl rfl ?_
    refine zq_SI (N := MX11_areTries) (As := [.int a2]) m_X11_284 dX11_dimension_11 rfl rfl (Nat.le_of_ble_eq_true rfl) h (fun x4 w3 h => ?_)
    refine z_if_ne 20 dX11_dimension_14 rfl (fun hc => ?_) (fun hc => ?_)
    · rw [if_neg hc] at h
      refine z_iconst 1 dX11_dimension_20 rfl ?_
      refine z_istore (i := 4) dX11_dimension_21 (by decide) rfl ?_
      exact zRn.weak h (zLe_of [true, false, true, true, true, true] (And.intro rfl (And.intro rfl (And.intro rfl (And.intro rfl (And.intro rfl (And.intro rfl (trivial))))))))
    · rw [if_pos hc] at h
      refine z_bipush (-2) dX11_dimension_17 rfl ?_
      exact z_ireturn .int dX11_dimension_19 rfl rfl h
set_option maxRecDepth 100000 in
set_option maxHeartbeats 4000000 in
theorem bX11_dimension_23 {X : zX} {d kc ks : Nat} {w : zW} {Q : Option Value → zW → Prop} (v0 : Nat) (v2 : Int32) (v3 : Nat) (v4 : Int32)
    (h : if 4 < v4 then (Q (some (.int (-1))) w) else (∃ r1, zfR w v0 10 9 = some r1 ∧ (zIs w r1 9 ∧ zCallI X d MX9_run [.ref r1, .ref v3, .int v4, .int v2] w (fun x3 w2 => if x3 = (-1) then (zRn X d kc ks MX11_dimension 23 [some (.ref v0), none, some (.int v2), some (.ref v3), some (.int (v4 + 1)), none] [] w2 Q) else (if x3 = (-3) then (Q (some (.int (-3))) w2) else (Q (some (.int v4)) w2)))))) :
    zRn X d kc ks MX11_dimension 23 [some (.ref v0), none, some (.int v2), some (.ref v3), some (.int v4), none] [] w Q := by
  refine z_iload v4 dX11_dimension_23 rfl ?_
  refine z_iconst 4 dX11_dimension_25 rfl ?_
  refine z_icmp_gt 69 dX11_dimension_26 rfl (fun hc => ?_) (fun hc => ?_)
  · rw [if_pos hc] at h
    refine z_iconst (-1) dX11_dimension_69 rfl ?_
    exact z_ireturn .int dX11_dimension_70 rfl rfl h
  · rw [if_neg hc] at h
    refine z_aload_n v0 dX11_dimension_29 rfl rfl ?_
    obtain ⟨r1, e, h⟩ := h
    refine zq_fR f_X11_72 dX11_dimension_30 e ?_
    refine z_aload_n v3 dX11_dimension_33 rfl rfl ?_
    refine z_iload v4 dX11_dimension_34 rfl ?_
    refine z_iload_n v2 dX11_dimension_36 rfl rfl ?_
    refine zq_VI (N := MX9_run) (As := [.ref v3, .int v4, .int v2]) m_X11_287 dX11_dimension_37 rfl rfl (Nat.le_of_ble_eq_true rfl) h (fun x3 w2 h => ?_)
    refine z_istore (i := 5) dX11_dimension_40 (by decide) rfl ?_
    refine z_iload x3 dX11_dimension_42 rfl ?_
    refine z_iconst (-1) dX11_dimension_44 rfl ?_
    refine z_icmp_eq 63 dX11_dimension_45 rfl (fun hc => ?_) (fun hc => ?_)
    · rw [if_pos hc] at h
      refine z_iinc (i := 4) v4 (v4 + 1) dX11_dimension_63 rfl rfl (by decide) rfl ?_
      refine z_goto 23 dX11_dimension_66 rfl ?_
      exact zRn.weak h (zLe_of [true, true, true, true, true, false] (And.intro rfl (And.intro rfl (And.intro rfl (And.intro rfl (And.intro rfl (And.intro rfl (trivial))))))))
    · rw [if_neg hc] at h
      refine z_iload x3 dX11_dimension_48 rfl ?_
      refine z_bipush (-3) dX11_dimension_50 rfl ?_
      refine z_icmp_ne 60 dX11_dimension_52 rfl (fun hc => ?_) (fun hc => ?_)
      · rw [if_neg hc] at h
        refine z_iload v4 dX11_dimension_60 rfl ?_
        exact z_ireturn .int dX11_dimension_62 rfl rfl h
      · rw [if_pos hc] at h
        refine z_bipush (-3) dX11_dimension_55 rfl ?_
        refine z_goto 62 dX11_dimension_57 rfl ?_
        exact z_ireturn .int dX11_dimension_62 rfl rfl h
theorem eX11_dimension {X : zX} {d kc ks : Nat} {w : zW} {Q : Option Value → zW → Prop} (p0 : Nat) (a1 : Int32) (a2 : Int32) (h : zRn X d kc ks MX11_dimension 0 [some (.ref p0), some (.int a1), some (.int a2), none, none, none] [] w Q) : zEv X d kc ks MX11_dimension [.ref p0, .int a1, .int a2] w Q :=
  zEv.of (by decide) (Nat.le_of_ble_eq_true rfl) (Or.inr (by simp [Value.category])) h
set_option maxRecDepth 100000 in
set_option maxHeartbeats 4000000 in
theorem bX11_row_0 {X : zX} {d kc ks : Nat} {w : zW} {Q : Option Value → zW → Prop} (p0 : Nat) (a1 : Int32) (a2 : Int32) (a3 : Int32)
    (h : zIs w p0 10 ∧ zCallO X d MX11_orderWithRow [.ref p0, .int a1, .int a2] w (fun w1 => Q (some (.int (-2))) w1) (fun r2 w1 => zIs w1 r2 5 ∧ zCallI X d MX5_has [.ref r2, .int a3] w1 (fun x4 w3 => if x4 = 0 then (Q (some (.int (-2))) w3) else (zIs w3 r2 5 ∧ zCallR X d MX5_rows [.ref r2] w3 (fun r6 w5 => zIs w5 r6 8 ∧ zCallI X d MX8_thingAt [.ref r6, .int a2, .int a3] w5 (fun x8 w7 => Q (some (.int x8)) w7)))))) :
    zRn X d kc ks MX11_row 0 [some (.ref p0), some (.int a1), some (.int a2), some (.int a3), none] [] w Q := by
  refine z_aload_n p0 dX11_row_0 rfl rfl ?_
  refine z_iload_n a1 dX11_row_1 rfl rfl ?_
  refine z_iload_n a2 dX11_row_2 rfl rfl ?_
  refine zq_VO (N := MX11_orderWithRow) (As := [.int a1, .int a2]) m_X11_212 dX11_row_3 rfl rfl (Nat.le_of_ble_eq_true rfl) h (fun w1 h => ?_) (fun r2 w1 h => ?_)
  · refine z_nstore (i := 4) dX11_row_6 (by decide) rfl ?_
    refine z_nload dX11_row_8 rfl ?_
    refine z_ifnullN 22 dX11_row_10 rfl ?_
    refine z_bipush (-2) dX11_row_22 rfl ?_
    exact z_ireturn .int dX11_row_24 rfl rfl h
  · refine z_astore (i := 4) dX11_row_6 (by decide) rfl ?_
    refine z_aload r2 dX11_row_8 rfl ?_
    refine z_ifnull dX11_row_10 ?_
    refine z_aload r2 dX11_row_13 rfl ?_
    refine z_iload_n a3 dX11_row_15 rfl rfl ?_
    refine zq_VI (N := MX5_has) (As := [.int a3]) m_X11_231 dX11_row_16 rfl rfl (Nat.le_of_ble_eq_true rfl) h (fun x4 w3 h => ?_)
    refine z_if_ne 25 dX11_row_19 rfl (fun hc => ?_) (fun hc => ?_)
    · rw [if_neg hc] at h
      refine z_aload r2 dX11_row_25 rfl ?_
      refine zq_VR (N := MX5_rows) (As := []) m_X11_149 dX11_row_27 rfl rfl (Nat.le_of_ble_eq_true rfl) h (fun r6 w5 h => ?_)
      refine z_iload_n a2 dX11_row_30 rfl rfl ?_
      refine z_iload_n a3 dX11_row_31 rfl rfl ?_
      refine zq_VI (N := MX8_thingAt) (As := [.int a2, .int a3]) m_X11_297 dX11_row_32 rfl rfl (Nat.le_of_ble_eq_true rfl) h (fun x8 w7 h => ?_)
      exact z_ireturn .int dX11_row_35 rfl rfl h
    · rw [if_pos hc] at h
      refine z_bipush (-2) dX11_row_22 rfl ?_
      exact z_ireturn .int dX11_row_24 rfl rfl h
theorem eX11_row {X : zX} {d kc ks : Nat} {w : zW} {Q : Option Value → zW → Prop} (p0 : Nat) (a1 : Int32) (a2 : Int32) (a3 : Int32) (h : zRn X d kc ks MX11_row 0 [some (.ref p0), some (.int a1), some (.int a2), some (.int a3), none] [] w Q) : zEv X d kc ks MX11_row [.ref p0, .int a1, .int a2, .int a3] w Q :=
  zEv.of (by decide) (Nat.le_of_ble_eq_true rfl) (Or.inr (by simp [Value.category])) h
set_option maxRecDepth 100000 in
set_option maxHeartbeats 4000000 in
theorem bX11_adds_0 {X : zX} {d kc ks : Nat} {w : zW} {Q : Option Value → zW → Prop} (p0 : Nat) (a1 : Int32) (a2 : Int32)
    (h : zIs w p0 10 ∧ zCallO X d MX11_orderIn [.ref p0, .int a1] w (fun w1 => Q (some (.int (-2))) w1) (fun r2 w1 => if 0 ≤ a2 then (zIs w1 p0 10 ∧ zCallR X d MX11_linesOf [.ref p0, .ref r2] w1 (fun r4 w3 => zIs w3 r4 4 ∧ zCallI X d MX4_total [.ref r4] w3 (fun x6 w5 => if a2 < x6 then (zIs w5 r2 5 ∧ zCallR X d MX5_rows [.ref r2] w5 (fun r8 w7 => zIs w7 r8 8 ∧ zCallI X d MX8_size [.ref r8] w7 (fun x10 w9 => if x10 < 6 then (∃ r11, zfR w9 p0 10 1 = some r11 ∧ (zIs w9 r11 5 ∧ zCallV X d MX5_copyFrom [.ref r11, .ref r2] w9 (fun w12 => ∃ r13, zfR w12 p0 10 1 = some r13 ∧ (zIs w12 r13 5 ∧ zCallR X d MX5_rows [.ref r13] w12 (fun r15 w14 => zIs w14 r15 8 ∧ zCallI X d MX8_open [.ref r15] w14 (fun x17 w16 => zRn X d kc ks MX11_adds 69 [some (.ref p0), some (.int a1), some (.int a2), some (.ref r2), some (.int x17), some (.int 0)] [] w16 Q)))))) else (Q (some (.int (-5))) w9)))) else (Q (some (.int (-1))) w5)))) else (Q (some (.int (-2))) w1))) :
    zRn X d kc ks MX11_adds 0 [some (.ref p0), some (.int a1), some (.int a2), none, none, none] [] w Q := by
  refine z_aload_n p0 dX11_adds_0 rfl rfl ?_
  refine z_iload_n a1 dX11_adds_1 rfl rfl ?_
  refine zq_VO (N := MX11_orderIn) (As := [.int a1]) m_X11_117 dX11_adds_2 rfl rfl (Nat.le_of_ble_eq_true rfl) h (fun w1 h => ?_) (fun r2 w1 h => ?_)
  · refine z_nstore_n (i := 3) dX11_adds_5 rfl (by decide) rfl ?_
    refine z_nload_n dX11_adds_6 rfl rfl ?_
    refine z_ifnullN 14 dX11_adds_7 rfl ?_
    refine z_bipush (-2) dX11_adds_14 rfl ?_
    exact z_ireturn .int dX11_adds_16 rfl rfl h
  · refine z_astore_n (i := 3) dX11_adds_5 rfl (by decide) rfl ?_
    refine z_aload_n r2 dX11_adds_6 rfl rfl ?_
    refine z_ifnull dX11_adds_7 ?_
    refine z_iload_n a2 dX11_adds_10 rfl rfl ?_
    refine z_if_ge 17 dX11_adds_11 rfl (fun hc => ?_) (fun hc => ?_)
    · rw [if_pos hc] at h
      refine z_iload_n a2 dX11_adds_17 rfl rfl ?_
      refine z_aload_n p0 dX11_adds_18 rfl rfl ?_
      refine z_aload_n r2 dX11_adds_19 rfl rfl ?_
      refine zq_VR (N := MX11_linesOf) (As := [.ref r2]) m_X11_201 dX11_adds_20 rfl rfl (Nat.le_of_ble_eq_true rfl) h (fun r4 w3 h => ?_)
      refine zq_VI (N := MX4_total) (As := []) m_X11_205 dX11_adds_23 rfl rfl (Nat.le_of_ble_eq_true rfl) h (fun x6 w5 h => ?_)
      refine z_icmp_lt 31 dX11_adds_26 rfl (fun hc => ?_) (fun hc => ?_)
      · rw [if_pos hc] at h
        refine z_aload_n r2 dX11_adds_31 rfl rfl ?_
        refine zq_VR (N := MX5_rows) (As := []) m_X11_149 dX11_adds_32 rfl rfl (Nat.le_of_ble_eq_true rfl) h (fun r8 w7 h => ?_)
        refine zq_VI (N := MX8_size) (As := []) m_X11_153 dX11_adds_35 rfl rfl (Nat.le_of_ble_eq_true rfl) h (fun x10 w9 h => ?_)
        refine z_bipush 6 dX11_adds_38 rfl ?_
        refine z_icmp_lt 46 dX11_adds_40 rfl (fun hc => ?_) (fun hc => ?_)
        · rw [if_pos hc] at h
          refine z_aload_n p0 dX11_adds_46 rfl rfl ?_
          obtain ⟨r11, e, h⟩ := h
          refine zq_fR f_X11_16 dX11_adds_47 e ?_
          refine z_aload_n r2 dX11_adds_50 rfl rfl ?_
          refine zq_VV (N := MX5_copyFrom) (As := [.ref r2]) m_X11_290 dX11_adds_51 rfl rfl (Nat.le_of_ble_eq_true rfl) h (fun w12 h => ?_)
          refine z_aload_n p0 dX11_adds_54 rfl rfl ?_
          obtain ⟨r13, e, h⟩ := h
          refine zq_fR f_X11_16 dX11_adds_55 e ?_
          refine zq_VR (N := MX5_rows) (As := []) m_X11_149 dX11_adds_58 rfl rfl (Nat.le_of_ble_eq_true rfl) h (fun r15 w14 h => ?_)
          refine zq_VI (N := MX8_open) (As := []) m_X11_299 dX11_adds_61 rfl rfl (Nat.le_of_ble_eq_true rfl) h (fun x17 w16 h => ?_)
          refine z_istore (i := 4) dX11_adds_64 (by decide) rfl ?_
          refine z_iconst 0 dX11_adds_66 rfl ?_
          refine z_istore (i := 5) dX11_adds_67 (by decide) rfl ?_
          exact h
        · rw [if_neg hc] at h
          refine z_bipush (-5) dX11_adds_43 rfl ?_
          exact z_ireturn .int dX11_adds_45 rfl rfl h
      · rw [if_neg hc] at h
        refine z_iconst (-1) dX11_adds_29 rfl ?_
        exact z_ireturn .int dX11_adds_30 rfl rfl h
    · rw [if_neg hc] at h
      refine z_bipush (-2) dX11_adds_14 rfl ?_
      exact z_ireturn .int dX11_adds_16 rfl rfl h
set_option maxRecDepth 100000 in
set_option maxHeartbeats 4000000 in
theorem bX11_adds_69 {X : zX} {d kc ks : Nat} {w : zW} {Q : Option Value → zW → Prop} (v0 : Nat) (v1 : Int32) (v2 : Int32) (v3 : Nat) (v4 : Int32) (v5 : Int32)
    (h : zIs w v3 5 ∧ zCallI X d MX5_size [.ref v3] w (fun x2 w1 => if x2 ≤ v5 then (zIs w1 v0 10 ∧ zCallV X d MX11_become [.ref v0, .int v1] w1 (fun w3 => ∃ r4, zfR w3 v0 10 1 = some r4 ∧ (zIs w3 r4 5 ∧ zCallR X d MX5_rows [.ref r4] w3 (fun r6 w5 => zIs w5 r6 8 ∧ zCallI X d MX8_size [.ref r6] w5 (fun x8 w7 => Q (some (.int x8)) w7))))) else (∃ r9, zfR w1 v0 10 1 = some r9 ∧ (zIs w1 r9 5 ∧ zCallR X d MX5_rows [.ref r9] w1 (fun r11 w10 => ∃ r12, zfR w10 v0 10 7 = some r12 ∧ (zIs w10 r12 4 ∧ zCallI X d MX4_thingAt [.ref r12, .ref v3, .int v2, .int v5] w10 (fun x14 w13 => zIs w13 r11 8 ∧ zCallV X d MX8_put [.ref r11, .int v4, .int v5, .int x14] w13 (fun w15 => zRn X d kc ks MX11_adds 69 [some (.ref v0), some (.int v1), some (.int v2), some (.ref v3), some (.int v4), some (.int (v5 + 1))] [] w15 Q)))))))) :
    zRn X d kc ks MX11_adds 69 [some (.ref v0), some (.int v1), some (.int v2), some (.ref v3), some (.int v4), some (.int v5)] [] w Q := by
  refine z_iload v5 dX11_adds_69 rfl ?_
  refine z_aload_n v3 dX11_adds_71 rfl rfl ?_
  refine zq_VI (N := MX5_size) (As := []) m_X11_121 dX11_adds_72 rfl rfl (Nat.le_of_ble_eq_true rfl) h (fun x2 w1 h => ?_)
  refine z_icmp_ge 109 dX11_adds_75 rfl (fun hc => ?_) (fun hc => ?_)
  · rw [if_pos hc] at h
    refine z_aload_n v0 dX11_adds_109 rfl rfl ?_
    refine z_iload_n v1 dX11_adds_110 rfl rfl ?_
    refine zq_VV (N := MX11_become) (As := [.int v1]) m_X11_101 dX11_adds_111 rfl rfl (Nat.le_of_ble_eq_true rfl) h (fun w3 h => ?_)
    refine z_aload_n v0 dX11_adds_114 rfl rfl ?_
    obtain ⟨r4, e, h⟩ := h
    refine zq_fR f_X11_16 dX11_adds_115 e ?_
    refine zq_VR (N := MX5_rows) (As := []) m_X11_149 dX11_adds_118 rfl rfl (Nat.le_of_ble_eq_true rfl) h (fun r6 w5 h => ?_)
    refine zq_VI (N := MX8_size) (As := []) m_X11_153 dX11_adds_121 rfl rfl (Nat.le_of_ble_eq_true rfl) h (fun x8 w7 h => ?_)
    exact z_ireturn .int dX11_adds_124 rfl rfl h
  · rw [if_neg hc] at h
    refine z_aload_n v0 dX11_adds_78 rfl rfl ?_
    obtain ⟨r9, e, h⟩ := h
    refine zq_fR f_X11_16 dX11_adds_79 e ?_
    refine zq_VR (N := MX5_rows) (As := []) m_X11_149 dX11_adds_82 rfl rfl (Nat.le_of_ble_eq_true rfl) h (fun r11 w10 h => ?_)
    refine z_iload v4 dX11_adds_85 rfl ?_
    refine z_iload v5 dX11_adds_87 rfl ?_
    refine z_aload_n v0 dX11_adds_89 rfl rfl ?_
    obtain ⟨r12, e, h⟩ := h
    refine zq_fR f_X11_58 dX11_adds_90 e ?_
    refine z_aload_n v3 dX11_adds_93 rfl rfl ?_
    refine z_iload_n v2 dX11_adds_94 rfl rfl ?_
    refine z_iload v5 dX11_adds_95 rfl ?_
    refine zq_VI (N := MX4_thingAt) (As := [.ref v3, .int v2, .int v5]) m_X11_208 dX11_adds_97 rfl rfl (Nat.le_of_ble_eq_true rfl) h (fun x14 w13 h => ?_)
    refine zq_VV (N := MX8_put) (As := [.int v4, .int v5, .int x14]) m_X11_302 dX11_adds_100 rfl rfl (Nat.le_of_ble_eq_true rfl) h (fun w15 h => ?_)
    refine z_iinc (i := 5) v5 (v5 + 1) dX11_adds_103 rfl rfl (by decide) rfl ?_
    refine z_goto 69 dX11_adds_106 rfl ?_
    exact h
theorem eX11_adds {X : zX} {d kc ks : Nat} {w : zW} {Q : Option Value → zW → Prop} (p0 : Nat) (a1 : Int32) (a2 : Int32) (h : zRn X d kc ks MX11_adds 0 [some (.ref p0), some (.int a1), some (.int a2), none, none, none] [] w Q) : zEv X d kc ks MX11_adds [.ref p0, .int a1, .int a2] w Q :=
  zEv.of (by decide) (Nat.le_of_ble_eq_true rfl) (Or.inr (by simp [Value.category])) h
set_option maxRecDepth 100000 in
set_option maxHeartbeats 4000000 in
theorem bX11_takes_0 {X : zX} {d kc ks : Nat} {w : zW} {Q : Option Value → zW → Prop} (p0 : Nat) (a1 : Int32) (a2 : Int32)
    (h : zIs w p0 10 ∧ zCallO X d MX11_orderWithRow [.ref p0, .int a1, .int a2] w (fun w1 => Q (some (.int (-2))) w1) (fun r2 w1 => ∃ r3, zfR w1 p0 10 1 = some r3 ∧ (zIs w1 r3 5 ∧ zCallV X d MX5_copyFrom [.ref r3, .ref r2] w1 (fun w4 => ∃ r5, zfR w4 p0 10 1 = some r5 ∧ (zIs w4 r5 5 ∧ zCallR X d MX5_rows [.ref r5] w4 (fun r7 w6 => zIs w6 r7 8 ∧ zCallV X d MX8_remove [.ref r7, .int a2] w6 (fun w8 => zIs w8 p0 10 ∧ zCallV X d MX11_become [.ref p0, .int a1] w8 (fun w9 => ∃ r10, zfR w9 p0 10 1 = some r10 ∧ (zIs w9 r10 5 ∧ zCallR X d MX5_rows [.ref r10] w9 (fun r12 w11 => zIs w11 r12 8 ∧ zCallI X d MX8_size [.ref r12] w11 (fun x14 w13 => Q (some (.int x14)) w13))))))))))) :
    zRn X d kc ks MX11_takes 0 [some (.ref p0), some (.int a1), some (.int a2), none] [] w Q := by
  refine z_aload_n p0 dX11_takes_0 rfl rfl ?_
  refine z_iload_n a1 dX11_takes_1 rfl rfl ?_
  refine z_iload_n a2 dX11_takes_2 rfl rfl ?_
  refine zq_VO (N := MX11_orderWithRow) (As := [.int a1, .int a2]) m_X11_212 dX11_takes_3 rfl rfl (Nat.le_of_ble_eq_true rfl) h (fun w1 h => ?_) (fun r2 w1 h => ?_)
  · refine z_nstore_n (i := 3) dX11_takes_6 rfl (by decide) rfl ?_
    refine z_nload_n dX11_takes_7 rfl rfl ?_
    refine z_ifnonnullN dX11_takes_8 ?_
    refine z_bipush (-2) dX11_takes_11 rfl ?_
    exact z_ireturn .int dX11_takes_13 rfl rfl h
  · refine z_astore_n (i := 3) dX11_takes_6 rfl (by decide) rfl ?_
    refine z_aload_n r2 dX11_takes_7 rfl rfl ?_
    refine z_ifnonnull 14 dX11_takes_8 rfl ?_
    refine z_aload_n p0 dX11_takes_14 rfl rfl ?_
    obtain ⟨r3, e, h⟩ := h
    refine zq_fR f_X11_16 dX11_takes_15 e ?_
    refine z_aload_n r2 dX11_takes_18 rfl rfl ?_
    refine zq_VV (N := MX5_copyFrom) (As := [.ref r2]) m_X11_290 dX11_takes_19 rfl rfl (Nat.le_of_ble_eq_true rfl) h (fun w4 h => ?_)
    refine z_aload_n p0 dX11_takes_22 rfl rfl ?_
    obtain ⟨r5, e, h⟩ := h
    refine zq_fR f_X11_16 dX11_takes_23 e ?_
    refine zq_VR (N := MX5_rows) (As := []) m_X11_149 dX11_takes_26 rfl rfl (Nat.le_of_ble_eq_true rfl) h (fun r7 w6 h => ?_)
    refine z_iload_n a2 dX11_takes_29 rfl rfl ?_
    refine zq_VV (N := MX8_remove) (As := [.int a2]) m_X11_306 dX11_takes_30 rfl rfl (Nat.le_of_ble_eq_true rfl) h (fun w8 h => ?_)
    refine z_aload_n p0 dX11_takes_33 rfl rfl ?_
    refine z_iload_n a1 dX11_takes_34 rfl rfl ?_
    refine zq_VV (N := MX11_become) (As := [.int a1]) m_X11_101 dX11_takes_35 rfl rfl (Nat.le_of_ble_eq_true rfl) h (fun w9 h => ?_)
    refine z_aload_n p0 dX11_takes_38 rfl rfl ?_
    obtain ⟨r10, e, h⟩ := h
    refine zq_fR f_X11_16 dX11_takes_39 e ?_
    refine zq_VR (N := MX5_rows) (As := []) m_X11_149 dX11_takes_42 rfl rfl (Nat.le_of_ble_eq_true rfl) h (fun r12 w11 h => ?_)
    refine zq_VI (N := MX8_size) (As := []) m_X11_153 dX11_takes_45 rfl rfl (Nat.le_of_ble_eq_true rfl) h (fun x14 w13 h => ?_)
    exact z_ireturn .int dX11_takes_48 rfl rfl h
theorem eX11_takes {X : zX} {d kc ks : Nat} {w : zW} {Q : Option Value → zW → Prop} (p0 : Nat) (a1 : Int32) (a2 : Int32) (h : zRn X d kc ks MX11_takes 0 [some (.ref p0), some (.int a1), some (.int a2), none] [] w Q) : zEv X d kc ks MX11_takes [.ref p0, .int a1, .int a2] w Q :=
  zEv.of (by decide) (Nat.le_of_ble_eq_true rfl) (Or.inr (by simp [Value.category])) h
set_option maxRecDepth 100000 in
set_option maxHeartbeats 4000000 in
theorem bX11_puts_0 {X : zX} {d kc ks : Nat} {w : zW} {Q : Option Value → zW → Prop} (p0 : Nat) (a1 : Int32) (a2 : Int32) (a3 : Int32)
    (h : zIs w p0 10 ∧ zCallO X d MX11_orderWith [.ref p0, .int a1, .int a2] w (fun w1 => Q (some (.int (-2))) w1) (fun r2 w1 => zIs w1 r2 5 ∧ zCallI X d MX5_has [.ref r2, .int a3] w1 (fun x4 w3 => if x4 = 0 then (Q (some (.int (-2))) w3) else (if a2 = a3 then (Q (some (.int (-6))) w3) else (zIs w3 r2 5 ∧ zCallI X d MX5_under [.ref r2, .int a3, .int a2] w3 (fun x6 w5 => if x6 = 0 then (∃ r7, zfR w5 p0 10 1 = some r7 ∧ (zIs w5 r7 5 ∧ zCallV X d MX5_copyFrom [.ref r7, .ref r2] w5 (fun w8 => ∃ r9, zfR w8 p0 10 1 = some r9 ∧ (zIs w8 r9 5 ∧ zCallI X d MX5_link [.ref r9, .int a2, .int a3] w8 (fun x11 w10 => zIs w10 p0 10 ∧ zCallV X d MX11_become [.ref p0, .int a1] w10 (fun w12 => Q (some (.int x11)) w12)))))) else (Q (some (.int (-6))) w5))))))) :
    zRn X d kc ks MX11_puts 0 [some (.ref p0), some (.int a1), some (.int a2), some (.int a3), none, none] [] w Q := by
  refine z_aload_n p0 dX11_puts_0 rfl rfl ?_
  refine z_iload_n a1 dX11_puts_1 rfl rfl ?_
  refine z_iload_n a2 dX11_puts_2 rfl rfl ?_
  refine zq_VO (N := MX11_orderWith) (As := [.int a1, .int a2]) m_X11_156 dX11_puts_3 rfl rfl (Nat.le_of_ble_eq_true rfl) h (fun w1 h => ?_) (fun r2 w1 h => ?_)
  · refine z_nstore (i := 4) dX11_puts_6 (by decide) rfl ?_
    refine z_nload dX11_puts_8 rfl ?_
    refine z_ifnullN 22 dX11_puts_10 rfl ?_
    refine z_bipush (-2) dX11_puts_22 rfl ?_
    exact z_ireturn .int dX11_puts_24 rfl rfl h
  · refine z_astore (i := 4) dX11_puts_6 (by decide) rfl ?_
    refine z_aload r2 dX11_puts_8 rfl ?_
    refine z_ifnull dX11_puts_10 ?_
    refine z_aload r2 dX11_puts_13 rfl ?_
    refine z_iload_n a3 dX11_puts_15 rfl rfl ?_
    refine zq_VI (N := MX5_has) (As := [.int a3]) m_X11_231 dX11_puts_16 rfl rfl (Nat.le_of_ble_eq_true rfl) h (fun x4 w3 h => ?_)
    refine z_if_ne 25 dX11_puts_19 rfl (fun hc => ?_) (fun hc => ?_)
    · rw [if_neg hc] at h
      refine z_iload_n a2 dX11_puts_25 rfl rfl ?_
      refine z_iload_n a3 dX11_puts_26 rfl rfl ?_
      refine z_icmp_eq 40 dX11_puts_27 rfl (fun hc => ?_) (fun hc => ?_)
      · rw [if_pos hc] at h
        refine z_bipush (-6) dX11_puts_40 rfl ?_
        exact z_ireturn .int dX11_puts_42 rfl rfl h
      · rw [if_neg hc] at h
        refine z_aload r2 dX11_puts_30 rfl ?_
        refine z_iload_n a3 dX11_puts_32 rfl rfl ?_
        refine z_iload_n a2 dX11_puts_33 rfl rfl ?_
        refine zq_VI (N := MX5_under) (As := [.int a3, .int a2]) m_X11_309 dX11_puts_34 rfl rfl (Nat.le_of_ble_eq_true rfl) h (fun x6 w5 h => ?_)
        refine z_if_eq 43 dX11_puts_37 rfl (fun hc => ?_) (fun hc => ?_)
        · rw [if_pos hc] at h
          refine z_aload_n p0 dX11_puts_43 rfl rfl ?_
          obtain ⟨r7, e, h⟩ := h
          refine zq_fR f_X11_16 dX11_puts_44 e ?_
          refine z_aload r2 dX11_puts_47 rfl ?_
          refine zq_VV (N := MX5_copyFrom) (As := [.ref r2]) m_X11_290 dX11_puts_49 rfl rfl (Nat.le_of_ble_eq_true rfl) h (fun w8 h => ?_)
          refine z_aload_n p0 dX11_puts_52 rfl rfl ?_
          obtain ⟨r9, e, h⟩ := h
          refine zq_fR f_X11_16 dX11_puts_53 e ?_
          refine z_iload_n a2 dX11_puts_56 rfl rfl ?_
          refine z_iload_n a3 dX11_puts_57 rfl rfl ?_
          refine zq_VI (N := MX5_link) (As := [.int a2, .int a3]) m_X11_313 dX11_puts_58 rfl rfl (Nat.le_of_ble_eq_true rfl) h (fun x11 w10 h => ?_)
          refine z_istore (i := 5) dX11_puts_61 (by decide) rfl ?_
          refine z_aload_n p0 dX11_puts_63 rfl rfl ?_
          refine z_iload_n a1 dX11_puts_64 rfl rfl ?_
          refine zq_VV (N := MX11_become) (As := [.int a1]) m_X11_101 dX11_puts_65 rfl rfl (Nat.le_of_ble_eq_true rfl) h (fun w12 h => ?_)
          refine z_iload x11 dX11_puts_68 rfl ?_
          exact z_ireturn .int dX11_puts_70 rfl rfl h
        · rw [if_neg hc] at h
          refine z_bipush (-6) dX11_puts_40 rfl ?_
          exact z_ireturn .int dX11_puts_42 rfl rfl h
    · rw [if_pos hc] at h
      refine z_bipush (-2) dX11_puts_22 rfl ?_
      exact z_ireturn .int dX11_puts_24 rfl rfl h
theorem eX11_puts {X : zX} {d kc ks : Nat} {w : zW} {Q : Option Value → zW → Prop} (p0 : Nat) (a1 : Int32) (a2 : Int32) (a3 : Int32) (h : zRn X d kc ks MX11_puts 0 [some (.ref p0), some (.int a1), some (.int a2), some (.int a3), none, none] [] w Q) : zEv X d kc ks MX11_puts [.ref p0, .int a1, .int a2, .int a3] w Q :=
  zEv.of (by decide) (Nat.le_of_ble_eq_true rfl) (Or.inr (by simp [Value.category])) h
set_option maxRecDepth 100000 in
set_option maxHeartbeats 4000000 in
theorem bX11_cuts_0 {X : zX} {d kc ks : Nat} {w : zW} {Q : Option Value → zW → Prop} (p0 : Nat) (a1 : Int32) (a2 : Int32) (a3 : Int32)
    (h : zIs w p0 10 ∧ zCallO X d MX11_orderWith [.ref p0, .int a1, .int a2] w (fun w1 => Q (some (.int (-2))) w1) (fun r2 w1 => zIs w1 r2 5 ∧ zCallI X d MX5_has [.ref r2, .int a3] w1 (fun x4 w3 => if x4 = 0 then (Q (some (.int (-2))) w3) else (zIs w3 r2 5 ∧ zCallI X d MX5_coveredBy [.ref r2, .int a3] w3 (fun x6 w5 => if ((x6 >>> (a2 &&& 31)) &&& 1) = 0 then (Q (some (.int (-6))) w5) else (∃ r7, zfR w5 p0 10 1 = some r7 ∧ (zIs w5 r7 5 ∧ zCallV X d MX5_copyFrom [.ref r7, .ref r2] w5 (fun w8 => ∃ r9, zfR w8 p0 10 1 = some r9 ∧ (zIs w8 r9 5 ∧ zCallV X d MX5_unlink [.ref r9, .int a2, .int a3] w8 (fun w10 => zIs w10 p0 10 ∧ zCallV X d MX11_become [.ref p0, .int a1] w10 (fun w11 => ∃ r12, zfR w11 p0 10 1 = some r12 ∧ (zIs w11 r12 5 ∧ zCallI X d MX5_twos [.ref r12] w11 (fun x14 w13 => Q (some (.int x14)) w13))))))))))))) :
    zRn X d kc ks MX11_cuts 0 [some (.ref p0), some (.int a1), some (.int a2), some (.int a3), none] [] w Q := by
  refine z_aload_n p0 dX11_cuts_0 rfl rfl ?_
  refine z_iload_n a1 dX11_cuts_1 rfl rfl ?_
  refine z_iload_n a2 dX11_cuts_2 rfl rfl ?_
  refine zq_VO (N := MX11_orderWith) (As := [.int a1, .int a2]) m_X11_156 dX11_cuts_3 rfl rfl (Nat.le_of_ble_eq_true rfl) h (fun w1 h => ?_) (fun r2 w1 h => ?_)
  · refine z_nstore (i := 4) dX11_cuts_6 (by decide) rfl ?_
    refine z_nload dX11_cuts_8 rfl ?_
    refine z_ifnullN 22 dX11_cuts_10 rfl ?_
    refine z_bipush (-2) dX11_cuts_22 rfl ?_
    exact z_ireturn .int dX11_cuts_24 rfl rfl h
  · refine z_astore (i := 4) dX11_cuts_6 (by decide) rfl ?_
    refine z_aload r2 dX11_cuts_8 rfl ?_
    refine z_ifnull dX11_cuts_10 ?_
    refine z_aload r2 dX11_cuts_13 rfl ?_
    refine z_iload_n a3 dX11_cuts_15 rfl rfl ?_
    refine zq_VI (N := MX5_has) (As := [.int a3]) m_X11_231 dX11_cuts_16 rfl rfl (Nat.le_of_ble_eq_true rfl) h (fun x4 w3 h => ?_)
    refine z_if_ne 25 dX11_cuts_19 rfl (fun hc => ?_) (fun hc => ?_)
    · rw [if_neg hc] at h
      refine z_aload r2 dX11_cuts_25 rfl ?_
      refine z_iload_n a3 dX11_cuts_27 rfl rfl ?_
      refine zq_VI (N := MX5_coveredBy) (As := [.int a3]) m_X11_169 dX11_cuts_28 rfl rfl (Nat.le_of_ble_eq_true rfl) h (fun x6 w5 h => ?_)
      refine z_iload_n a2 dX11_cuts_31 rfl rfl ?_
      refine z_ishr dX11_cuts_32 ?_
      refine z_iconst 1 dX11_cuts_33 rfl ?_
      refine z_iand dX11_cuts_34 ?_
      refine z_if_ne 41 dX11_cuts_35 rfl (fun hc => ?_) (fun hc => ?_)
      · rw [if_neg hc] at h
        refine z_aload_n p0 dX11_cuts_41 rfl rfl ?_
        obtain ⟨r7, e, h⟩ := h
        refine zq_fR f_X11_16 dX11_cuts_42 e ?_
        refine z_aload r2 dX11_cuts_45 rfl ?_
        refine zq_VV (N := MX5_copyFrom) (As := [.ref r2]) m_X11_290 dX11_cuts_47 rfl rfl (Nat.le_of_ble_eq_true rfl) h (fun w8 h => ?_)
        refine z_aload_n p0 dX11_cuts_50 rfl rfl ?_
        obtain ⟨r9, e, h⟩ := h
        refine zq_fR f_X11_16 dX11_cuts_51 e ?_
        refine z_iload_n a2 dX11_cuts_54 rfl rfl ?_
        refine z_iload_n a3 dX11_cuts_55 rfl rfl ?_
        refine zq_VV (N := MX5_unlink) (As := [.int a2, .int a3]) m_X11_316 dX11_cuts_56 rfl rfl (Nat.le_of_ble_eq_true rfl) h (fun w10 h => ?_)
        refine z_aload_n p0 dX11_cuts_59 rfl rfl ?_
        refine z_iload_n a1 dX11_cuts_60 rfl rfl ?_
        refine zq_VV (N := MX11_become) (As := [.int a1]) m_X11_101 dX11_cuts_61 rfl rfl (Nat.le_of_ble_eq_true rfl) h (fun w11 h => ?_)
        refine z_aload_n p0 dX11_cuts_64 rfl rfl ?_
        obtain ⟨r12, e, h⟩ := h
        refine zq_fR f_X11_16 dX11_cuts_65 e ?_
        refine zq_VI (N := MX5_twos) (As := []) m_X11_104 dX11_cuts_68 rfl rfl (Nat.le_of_ble_eq_true rfl) h (fun x14 w13 h => ?_)
        exact z_ireturn .int dX11_cuts_71 rfl rfl h
      · rw [if_pos hc] at h
        refine z_bipush (-6) dX11_cuts_38 rfl ?_
        exact z_ireturn .int dX11_cuts_40 rfl rfl h
    · rw [if_pos hc] at h
      refine z_bipush (-2) dX11_cuts_22 rfl ?_
      exact z_ireturn .int dX11_cuts_24 rfl rfl h
theorem eX11_cuts {X : zX} {d kc ks : Nat} {w : zW} {Q : Option Value → zW → Prop} (p0 : Nat) (a1 : Int32) (a2 : Int32) (a3 : Int32) (h : zRn X d kc ks MX11_cuts 0 [some (.ref p0), some (.int a1), some (.int a2), some (.int a3), none] [] w Q) : zEv X d kc ks MX11_cuts [.ref p0, .int a1, .int a2, .int a3] w Q :=
  zEv.of (by decide) (Nat.le_of_ble_eq_true rfl) (Or.inr (by simp [Value.category])) h
set_option maxRecDepth 100000 in
set_option maxHeartbeats 4000000 in
theorem bX11_flip_0 {X : zX} {d kc ks : Nat} {w : zW} {Q : Option Value → zW → Prop} (p0 : Nat) (a1 : Int32)
    (h : zIs w p0 10 ∧ zCallO X d MX11_orderIn [.ref p0, .int a1] w (fun w1 => Q (some (.int (-2))) w1) (fun r2 w1 => ∃ r3, zfR w1 p0 10 1 = some r3 ∧ (zIs w1 r3 5 ∧ zCallV X d MX5_copyFrom [.ref r3, .ref r2] w1 (fun w4 => ∃ r5, zfR w4 p0 10 1 = some r5 ∧ (zIs w4 r5 5 ∧ zCallV X d MX5_turnOver [.ref r5] w4 (fun w6 => zIs w6 p0 10 ∧ zCallV X d MX11_become [.ref p0, .int a1] w6 (fun w7 => ∃ r8, zfR w7 p0 10 6 = some r8 ∧ (∃ r9, zfR w7 p0 10 1 = some r9 ∧ (zIs w7 r8 1 ∧ zCallI X d MX1_height [.ref r8, .ref r9] w7 (fun x11 w10 => Q (some (.int x11)) w10)))))))))) :
    zRn X d kc ks MX11_flip 0 [some (.ref p0), some (.int a1), none] [] w Q := by
  refine z_aload_n p0 dX11_flip_0 rfl rfl ?_
  refine z_iload_n a1 dX11_flip_1 rfl rfl ?_
  refine zq_VO (N := MX11_orderIn) (As := [.int a1]) m_X11_117 dX11_flip_2 rfl rfl (Nat.le_of_ble_eq_true rfl) h (fun w1 h => ?_) (fun r2 w1 h => ?_)
  · refine z_nstore_n (i := 2) dX11_flip_5 rfl (by decide) rfl ?_
    refine z_nload_n dX11_flip_6 rfl rfl ?_
    refine z_ifnonnullN dX11_flip_7 ?_
    refine z_bipush (-2) dX11_flip_10 rfl ?_
    exact z_ireturn .int dX11_flip_12 rfl rfl h
  · refine z_astore_n (i := 2) dX11_flip_5 rfl (by decide) rfl ?_
    refine z_aload_n r2 dX11_flip_6 rfl rfl ?_
    refine z_ifnonnull 13 dX11_flip_7 rfl ?_
    refine z_aload_n p0 dX11_flip_13 rfl rfl ?_
    obtain ⟨r3, e, h⟩ := h
    refine zq_fR f_X11_16 dX11_flip_14 e ?_
    refine z_aload_n r2 dX11_flip_17 rfl rfl ?_
    refine zq_VV (N := MX5_copyFrom) (As := [.ref r2]) m_X11_290 dX11_flip_18 rfl rfl (Nat.le_of_ble_eq_true rfl) h (fun w4 h => ?_)
    refine z_aload_n p0 dX11_flip_21 rfl rfl ?_
    obtain ⟨r5, e, h⟩ := h
    refine zq_fR f_X11_16 dX11_flip_22 e ?_
    refine zq_VV (N := MX5_turnOver) (As := []) m_X11_320 dX11_flip_25 rfl rfl (Nat.le_of_ble_eq_true rfl) h (fun w6 h => ?_)
    refine z_aload_n p0 dX11_flip_28 rfl rfl ?_
    refine z_iload_n a1 dX11_flip_29 rfl rfl ?_
    refine zq_VV (N := MX11_become) (As := [.int a1]) m_X11_101 dX11_flip_30 rfl rfl (Nat.le_of_ble_eq_true rfl) h (fun w7 h => ?_)
    refine z_aload_n p0 dX11_flip_33 rfl rfl ?_
    obtain ⟨r8, e, h⟩ := h
    refine zq_fR f_X11_51 dX11_flip_34 e ?_
    refine z_aload_n p0 dX11_flip_37 rfl rfl ?_
    obtain ⟨r9, e, h⟩ := h
    refine zq_fR f_X11_16 dX11_flip_38 e ?_
    refine zq_VI (N := MX1_height) (As := [.ref r9]) m_X11_125 dX11_flip_41 rfl rfl (Nat.le_of_ble_eq_true rfl) h (fun x11 w10 h => ?_)
    exact z_ireturn .int dX11_flip_44 rfl rfl h
theorem eX11_flip {X : zX} {d kc ks : Nat} {w : zW} {Q : Option Value → zW → Prop} (p0 : Nat) (a1 : Int32) (h : zRn X d kc ks MX11_flip 0 [some (.ref p0), some (.int a1), none] [] w Q) : zEv X d kc ks MX11_flip [.ref p0, .int a1] w Q :=
  zEv.of (by decide) (Nat.le_of_ble_eq_true rfl) (Or.inr (by simp [Value.category])) h
set_option maxRecDepth 100000 in
set_option maxHeartbeats 4000000 in
theorem bX11_without_0 {X : zX} {d kc ks : Nat} {w : zW} {Q : Option Value → zW → Prop} (p0 : Nat) (a1 : Int32) (a2 : Int32)
    (h : zIs w p0 10 ∧ zCallO X d MX11_orderWith [.ref p0, .int a1, .int a2] w (fun w1 => Q (some (.int (-2))) w1) (fun r2 w1 => zIs w1 r2 5 ∧ zCallI X d MX5_size [.ref r2] w1 (fun x4 w3 => if x4 = 1 then (Q (some (.int (-6))) w3) else (∃ r5, zfR w3 p0 10 1 = some r5 ∧ (zIs w3 r5 5 ∧ zCallV X d MX5_copyFrom [.ref r5, .ref r2] w3 (fun w6 => ∃ r7, zfR w6 p0 10 1 = some r7 ∧ (zIs w6 r7 5 ∧ zCallV X d MX5_leaveOut [.ref r7, .int a2] w6 (fun w8 => zIs w8 p0 10 ∧ zCallV X d MX11_become [.ref p0, .int a1] w8 (fun w9 => ∃ r10, zfR w9 p0 10 1 = some r10 ∧ (zIs w9 r10 5 ∧ zCallI X d MX5_size [.ref r10] w9 (fun x12 w11 => Q (some (.int x12)) w11))))))))))) :
    zRn X d kc ks MX11_without 0 [some (.ref p0), some (.int a1), some (.int a2), none] [] w Q := by
  refine z_aload_n p0 dX11_without_0 rfl rfl ?_
  refine z_iload_n a1 dX11_without_1 rfl rfl ?_
  refine z_iload_n a2 dX11_without_2 rfl rfl ?_
  refine zq_VO (N := MX11_orderWith) (As := [.int a1, .int a2]) m_X11_156 dX11_without_3 rfl rfl (Nat.le_of_ble_eq_true rfl) h (fun w1 h => ?_) (fun r2 w1 h => ?_)
  · refine z_nstore_n (i := 3) dX11_without_6 rfl (by decide) rfl ?_
    refine z_nload_n dX11_without_7 rfl rfl ?_
    refine z_ifnonnullN dX11_without_8 ?_
    refine z_bipush (-2) dX11_without_11 rfl ?_
    exact z_ireturn .int dX11_without_13 rfl rfl h
  · refine z_astore_n (i := 3) dX11_without_6 rfl (by decide) rfl ?_
    refine z_aload_n r2 dX11_without_7 rfl rfl ?_
    refine z_ifnonnull 14 dX11_without_8 rfl ?_
    refine z_aload_n r2 dX11_without_14 rfl rfl ?_
    refine zq_VI (N := MX5_size) (As := []) m_X11_121 dX11_without_15 rfl rfl (Nat.le_of_ble_eq_true rfl) h (fun x4 w3 h => ?_)
    refine z_iconst 1 dX11_without_18 rfl ?_
    refine z_icmp_ne 25 dX11_without_19 rfl (fun hc => ?_) (fun hc => ?_)
    · rw [if_neg hc] at h
      refine z_aload_n p0 dX11_without_25 rfl rfl ?_
      obtain ⟨r5, e, h⟩ := h
      refine zq_fR f_X11_16 dX11_without_26 e ?_
      refine z_aload_n r2 dX11_without_29 rfl rfl ?_
      refine zq_VV (N := MX5_copyFrom) (As := [.ref r2]) m_X11_290 dX11_without_30 rfl rfl (Nat.le_of_ble_eq_true rfl) h (fun w6 h => ?_)
      refine z_aload_n p0 dX11_without_33 rfl rfl ?_
      obtain ⟨r7, e, h⟩ := h
      refine zq_fR f_X11_16 dX11_without_34 e ?_
      refine z_iload_n a2 dX11_without_37 rfl rfl ?_
      refine zq_VV (N := MX5_leaveOut) (As := [.int a2]) m_X11_323 dX11_without_38 rfl rfl (Nat.le_of_ble_eq_true rfl) h (fun w8 h => ?_)
      refine z_aload_n p0 dX11_without_41 rfl rfl ?_
      refine z_iload_n a1 dX11_without_42 rfl rfl ?_
      refine zq_VV (N := MX11_become) (As := [.int a1]) m_X11_101 dX11_without_43 rfl rfl (Nat.le_of_ble_eq_true rfl) h (fun w9 h => ?_)
      refine z_aload_n p0 dX11_without_46 rfl rfl ?_
      obtain ⟨r10, e, h⟩ := h
      refine zq_fR f_X11_16 dX11_without_47 e ?_
      refine zq_VI (N := MX5_size) (As := []) m_X11_121 dX11_without_50 rfl rfl (Nat.le_of_ble_eq_true rfl) h (fun x12 w11 h => ?_)
      exact z_ireturn .int dX11_without_53 rfl rfl h
    · rw [if_pos hc] at h
      refine z_bipush (-6) dX11_without_22 rfl ?_
      exact z_ireturn .int dX11_without_24 rfl rfl h
theorem eX11_without {X : zX} {d kc ks : Nat} {w : zW} {Q : Option Value → zW → Prop} (p0 : Nat) (a1 : Int32) (a2 : Int32) (h : zRn X d kc ks MX11_without 0 [some (.ref p0), some (.int a1), some (.int a2), none] [] w Q) : zEv X d kc ks MX11_without [.ref p0, .int a1, .int a2] w Q :=
  zEv.of (by decide) (Nat.le_of_ble_eq_true rfl) (Or.inr (by simp [Value.category])) h
set_option maxRecDepth 100000 in
set_option maxHeartbeats 4000000 in
theorem bX11_joins_0 {X : zX} {d kc ks : Nat} {w : zW} {Q : Option Value → zW → Prop} (p0 : Nat) (a1 : Int32) (a2 : Int32) (a3 : Int32) (a4 : Int32)
    (h : zIs w p0 10 ∧ zCallO X d MX11_orderIn [.ref p0, .int a1] w (fun w1 => zIs w1 p0 10 ∧ zCallO X d MX11_orderIn [.ref p0, .int a2] w1 (fun w3 => Q (some (.int (-2))) w3) (fun r4 w3 => Q (some (.int (-2))) w3)) (fun r2 w1 => zIs w1 p0 10 ∧ zCallO X d MX11_orderIn [.ref p0, .int a2] w1 (fun w5 => Q (some (.int (-2))) w5) (fun r6 w5 => zCallI X d MX11_isBit [.int a3] w5 (fun x8 w7 => if x8 = 0 then (Q (some (.int (-2))) w7) else (zCallI X d MX11_isSlot [.int a4] w7 (fun x10 w9 => if x10 = 0 then (Q (some (.int (-2))) w9) else (zIs w9 r2 5 ∧ zCallI X d MX5_size [.ref r2] w9 (fun x12 w11 => zIs w11 r6 5 ∧ zCallI X d MX5_size [.ref r6] w11 (fun x14 w13 => if (x12 + x14) ≤ 8 then (∃ r15, zfR w13 p0 10 1 = some r15 ∧ (if a3 = 1 then (zRn X d kc ks MX11_joins 79 [some (.ref p0), none, none, none, some (.int a4), none, none] [.int 1, .ref r6, .ref r2, .ref r15] w13 Q) else (zRn X d kc ks MX11_joins 79 [some (.ref p0), none, none, none, some (.int a4), none, none] [.int 0, .ref r6, .ref r2, .ref r15] w13 Q))) else (Q (some (.int (-5))) w13)))))))))) :
    zRn X d kc ks MX11_joins 0 [some (.ref p0), some (.int a1), some (.int a2), some (.int a3), some (.int a4), none, none] [] w Q := by
  refine z_aload_n p0 dX11_joins_0 rfl rfl ?_
  refine z_iload_n a1 dX11_joins_1 rfl rfl ?_
  refine zq_VO (N := MX11_orderIn) (As := [.int a1]) m_X11_117 dX11_joins_2 rfl rfl (Nat.le_of_ble_eq_true rfl) h (fun w1 h => ?_) (fun r2 w1 h => ?_)
  · refine z_nstore (i := 5) dX11_joins_5 (by decide) rfl ?_
    refine z_aload_n p0 dX11_joins_7 rfl rfl ?_
    refine z_iload_n a2 dX11_joins_8 rfl rfl ?_
    refine zq_VO (N := MX11_orderIn) (As := [.int a2]) m_X11_117 dX11_joins_9 rfl rfl (Nat.le_of_ble_eq_true rfl) h (fun w3 h => ?_) (fun r4 w3 h => ?_)
    · refine z_nstore (i := 6) dX11_joins_12 (by decide) rfl ?_
      refine z_nload dX11_joins_14 rfl ?_
      refine z_ifnullN 39 dX11_joins_16 rfl ?_
      refine z_bipush (-2) dX11_joins_39 rfl ?_
      exact z_ireturn .int dX11_joins_41 rfl rfl h
    · refine z_astore (i := 6) dX11_joins_12 (by decide) rfl ?_
      refine z_nload dX11_joins_14 rfl ?_
      refine z_ifnullN 39 dX11_joins_16 rfl ?_
      refine z_bipush (-2) dX11_joins_39 rfl ?_
      exact z_ireturn .int dX11_joins_41 rfl rfl h
  · refine z_astore (i := 5) dX11_joins_5 (by decide) rfl ?_
    refine z_aload_n p0 dX11_joins_7 rfl rfl ?_
    refine z_iload_n a2 dX11_joins_8 rfl rfl ?_
    refine zq_VO (N := MX11_orderIn) (As := [.int a2]) m_X11_117 dX11_joins_9 rfl rfl (Nat.le_of_ble_eq_true rfl) h (fun w5 h => ?_) (fun r6 w5 h => ?_)
    · refine z_nstore (i := 6) dX11_joins_12 (by decide) rfl ?_
      refine z_aload r2 dX11_joins_14 rfl ?_
      refine z_ifnull dX11_joins_16 ?_
      refine z_nload dX11_joins_19 rfl ?_
      refine z_ifnullN 39 dX11_joins_21 rfl ?_
      refine z_bipush (-2) dX11_joins_39 rfl ?_
      exact z_ireturn .int dX11_joins_41 rfl rfl h
    · refine z_astore (i := 6) dX11_joins_12 (by decide) rfl ?_
      refine z_aload r2 dX11_joins_14 rfl ?_
      refine z_ifnull dX11_joins_16 ?_
      refine z_aload r6 dX11_joins_19 rfl ?_
      refine z_ifnull dX11_joins_21 ?_
      refine z_iload_n a3 dX11_joins_24 rfl rfl ?_
      refine zq_SI (N := MX11_isBit) (As := [.int a3]) m_X11_218 dX11_joins_25 rfl rfl (Nat.le_of_ble_eq_true rfl) h (fun x8 w7 h => ?_)
      refine z_if_eq 39 dX11_joins_28 rfl (fun hc => ?_) (fun hc => ?_)
      · rw [if_pos hc] at h
        refine z_bipush (-2) dX11_joins_39 rfl ?_
        exact z_ireturn .int dX11_joins_41 rfl rfl h
      · rw [if_neg hc] at h
        refine z_iload a4 dX11_joins_31 rfl ?_
        refine zq_SI (N := MX11_isSlot) (As := [.int a4]) m_X11_93 dX11_joins_33 rfl rfl (Nat.le_of_ble_eq_true rfl) h (fun x10 w9 h => ?_)
        refine z_if_ne 42 dX11_joins_36 rfl (fun hc => ?_) (fun hc => ?_)
        · rw [if_neg hc] at h
          refine z_aload r2 dX11_joins_42 rfl ?_
          refine zq_VI (N := MX5_size) (As := []) m_X11_121 dX11_joins_44 rfl rfl (Nat.le_of_ble_eq_true rfl) h (fun x12 w11 h => ?_)
          refine z_aload r6 dX11_joins_47 rfl ?_
          refine zq_VI (N := MX5_size) (As := []) m_X11_121 dX11_joins_49 rfl rfl (Nat.le_of_ble_eq_true rfl) h (fun x14 w13 h => ?_)
          refine z_iadd dX11_joins_52 ?_
          refine z_bipush 8 dX11_joins_53 rfl ?_
          refine z_icmp_le 61 dX11_joins_55 rfl (fun hc => ?_) (fun hc => ?_)
          · rw [if_pos hc] at h
            refine z_aload_n p0 dX11_joins_61 rfl rfl ?_
            obtain ⟨r15, e, h⟩ := h
            refine zq_fR f_X11_16 dX11_joins_62 e ?_
            refine z_aload r2 dX11_joins_65 rfl ?_
            refine z_aload r6 dX11_joins_67 rfl ?_
            refine z_iload_n a3 dX11_joins_69 rfl rfl ?_
            refine z_iconst 1 dX11_joins_70 rfl ?_
            refine z_icmp_ne 78 dX11_joins_71 rfl (fun hc => ?_) (fun hc => ?_)
            · rw [if_neg hc] at h
              refine z_iconst 0 dX11_joins_78 rfl ?_
              exact zRn.weak h (zLe_of [true, false, false, false, true, false, false] (And.intro rfl (And.intro rfl (And.intro rfl (And.intro rfl (And.intro rfl (And.intro rfl (And.intro rfl (trivial)))))))))
            · rw [if_pos hc] at h
              refine z_iconst 1 dX11_joins_74 rfl ?_
              refine z_goto 79 dX11_joins_75 rfl ?_
              exact zRn.weak h (zLe_of [true, false, false, false, true, false, false] (And.intro rfl (And.intro rfl (And.intro rfl (And.intro rfl (And.intro rfl (And.intro rfl (And.intro rfl (trivial)))))))))
          · rw [if_neg hc] at h
            refine z_bipush (-5) dX11_joins_58 rfl ?_
            exact z_ireturn .int dX11_joins_60 rfl rfl h
        · rw [if_pos hc] at h
          refine z_bipush (-2) dX11_joins_39 rfl ?_
          exact z_ireturn .int dX11_joins_41 rfl rfl h
set_option maxRecDepth 100000 in
set_option maxHeartbeats 4000000 in
theorem bX11_joins_79 {X : zX} {d kc ks : Nat} {w : zW} {Q : Option Value → zW → Prop} (v0 : Nat) (v4 : Int32) (u0 : Int32) (u1 : Nat) (u2 : Nat) (u3 : Nat)
    (h : zIs w u3 5 ∧ zCallV X d MX5_unite [.ref u3, .ref u2, .ref u1, .int u0] w (fun w1 => zIs w1 v0 10 ∧ zCallV X d MX11_become [.ref v0, .int v4] w1 (fun w2 => ∃ r3, zfR w2 v0 10 1 = some r3 ∧ (zIs w2 r3 5 ∧ zCallI X d MX5_size [.ref r3] w2 (fun x5 w4 => Q (some (.int x5)) w4))))) :
    zRn X d kc ks MX11_joins 79 [some (.ref v0), none, none, none, some (.int v4), none, none] [.int u0, .ref u1, .ref u2, .ref u3] w Q := by
  refine zq_VV (N := MX5_unite) (As := [.ref u2, .ref u1, .int u0]) m_X11_326 dX11_joins_79 rfl rfl (Nat.le_of_ble_eq_true rfl) h (fun w1 h => ?_)
  refine z_aload_n v0 dX11_joins_82 rfl rfl ?_
  refine z_iload v4 dX11_joins_83 rfl ?_
  refine zq_VV (N := MX11_become) (As := [.int v4]) m_X11_101 dX11_joins_85 rfl rfl (Nat.le_of_ble_eq_true rfl) h (fun w2 h => ?_)
  refine z_aload_n v0 dX11_joins_88 rfl rfl ?_
  obtain ⟨r3, e, h⟩ := h
  refine zq_fR f_X11_16 dX11_joins_89 e ?_
  refine zq_VI (N := MX5_size) (As := []) m_X11_121 dX11_joins_92 rfl rfl (Nat.le_of_ble_eq_true rfl) h (fun x5 w4 h => ?_)
  exact z_ireturn .int dX11_joins_95 rfl rfl h
theorem eX11_joins {X : zX} {d kc ks : Nat} {w : zW} {Q : Option Value → zW → Prop} (p0 : Nat) (a1 : Int32) (a2 : Int32) (a3 : Int32) (a4 : Int32) (h : zRn X d kc ks MX11_joins 0 [some (.ref p0), some (.int a1), some (.int a2), some (.int a3), some (.int a4), none, none] [] w Q) : zEv X d kc ks MX11_joins [.ref p0, .int a1, .int a2, .int a3, .int a4] w Q :=
  zEv.of (by decide) (Nat.le_of_ble_eq_true rfl) (Or.inr (by simp [Value.category])) h
set_option maxRecDepth 100000 in
set_option maxHeartbeats 4000000 in
theorem bX11_alike_0 {X : zX} {d kc ks : Nat} {w : zW} {Q : Option Value → zW → Prop} (p0 : Nat) (a1 : Int32) (a2 : Int32)
    (h : zIs w p0 10 ∧ zCallO X d MX11_orderIn [.ref p0, .int a1] w (fun w1 => zIs w1 p0 10 ∧ zCallO X d MX11_orderIn [.ref p0, .int a2] w1 (fun w3 => Q (some (.int (-2))) w3) (fun r4 w3 => Q (some (.int (-2))) w3)) (fun r2 w1 => zIs w1 p0 10 ∧ zCallO X d MX11_orderIn [.ref p0, .int a2] w1 (fun w5 => Q (some (.int (-2))) w5) (fun r6 w5 => ∃ r7, zfR w5 p0 10 10 = some r7 ∧ (zIs w5 r7 3 ∧ zCallI X d MX3_between [.ref r7, .ref r2, .ref r6] w5 (fun x9 w8 => zCallI X d MX11_bit [.int x9] w8 (fun x11 w10 => Q (some (.int x11)) w10)))))) :
    zRn X d kc ks MX11_alike 0 [some (.ref p0), some (.int a1), some (.int a2), none, none] [] w Q := by
  refine z_aload_n p0 dX11_alike_0 rfl rfl ?_
  refine z_iload_n a1 dX11_alike_1 rfl rfl ?_
  refine zq_VO (N := MX11_orderIn) (As := [.int a1]) m_X11_117 dX11_alike_2 rfl rfl (Nat.le_of_ble_eq_true rfl) h (fun w1 h => ?_) (fun r2 w1 h => ?_)
  · refine z_nstore_n (i := 3) dX11_alike_5 rfl (by decide) rfl ?_
    refine z_aload_n p0 dX11_alike_6 rfl rfl ?_
    refine z_iload_n a2 dX11_alike_7 rfl rfl ?_
    refine zq_VO (N := MX11_orderIn) (As := [.int a2]) m_X11_117 dX11_alike_8 rfl rfl (Nat.le_of_ble_eq_true rfl) h (fun w3 h => ?_) (fun r4 w3 h => ?_)
    · refine z_nstore (i := 4) dX11_alike_11 (by decide) rfl ?_
      refine z_nload_n dX11_alike_13 rfl rfl ?_
      refine z_ifnullN 22 dX11_alike_14 rfl ?_
      refine z_bipush (-2) dX11_alike_22 rfl ?_
      exact z_ireturn .int dX11_alike_24 rfl rfl h
    · refine z_astore (i := 4) dX11_alike_11 (by decide) rfl ?_
      refine z_nload_n dX11_alike_13 rfl rfl ?_
      refine z_ifnullN 22 dX11_alike_14 rfl ?_
      refine z_bipush (-2) dX11_alike_22 rfl ?_
      exact z_ireturn .int dX11_alike_24 rfl rfl h
  · refine z_astore_n (i := 3) dX11_alike_5 rfl (by decide) rfl ?_
    refine z_aload_n p0 dX11_alike_6 rfl rfl ?_
    refine z_iload_n a2 dX11_alike_7 rfl rfl ?_
    refine zq_VO (N := MX11_orderIn) (As := [.int a2]) m_X11_117 dX11_alike_8 rfl rfl (Nat.le_of_ble_eq_true rfl) h (fun w5 h => ?_) (fun r6 w5 h => ?_)
    · refine z_nstore (i := 4) dX11_alike_11 (by decide) rfl ?_
      refine z_aload_n r2 dX11_alike_13 rfl rfl ?_
      refine z_ifnull dX11_alike_14 ?_
      refine z_nload dX11_alike_17 rfl ?_
      refine z_ifnonnullN dX11_alike_19 ?_
      refine z_bipush (-2) dX11_alike_22 rfl ?_
      exact z_ireturn .int dX11_alike_24 rfl rfl h
    · refine z_astore (i := 4) dX11_alike_11 (by decide) rfl ?_
      refine z_aload_n r2 dX11_alike_13 rfl rfl ?_
      refine z_ifnull dX11_alike_14 ?_
      refine z_aload r6 dX11_alike_17 rfl ?_
      refine z_ifnonnull 25 dX11_alike_19 rfl ?_
      refine z_aload_n p0 dX11_alike_25 rfl rfl ?_
      obtain ⟨r7, e, h⟩ := h
      refine zq_fR f_X11_79 dX11_alike_26 e ?_
      refine z_aload_n r2 dX11_alike_29 rfl rfl ?_
      refine z_aload r6 dX11_alike_30 rfl ?_
      refine zq_VI (N := MX3_between) (As := [.ref r2, .ref r6]) m_X11_330 dX11_alike_32 rfl rfl (Nat.le_of_ble_eq_true rfl) h (fun x9 w8 h => ?_)
      refine zq_SI (N := MX11_bit) (As := [.int x9]) m_X11_175 dX11_alike_35 rfl rfl (Nat.le_of_ble_eq_true rfl) h (fun x11 w10 h => ?_)
      exact z_ireturn .int dX11_alike_38 rfl rfl h
theorem eX11_alike {X : zX} {d kc ks : Nat} {w : zW} {Q : Option Value → zW → Prop} (p0 : Nat) (a1 : Int32) (a2 : Int32) (h : zRn X d kc ks MX11_alike 0 [some (.ref p0), some (.int a1), some (.int a2), none, none] [] w Q) : zEv X d kc ks MX11_alike [.ref p0, .int a1, .int a2] w Q :=
  zEv.of (by decide) (Nat.le_of_ble_eq_true rfl) (Or.inr (by simp [Value.category])) h
set_option maxRecDepth 100000 in
set_option maxHeartbeats 4000000 in
theorem bX11_selves_0 {X : zX} {d kc ks : Nat} {w : zW} {Q : Option Value → zW → Prop} (p0 : Nat) (a1 : Int32)
    (h : zIs w p0 10 ∧ zCallO X d MX11_orderIn [.ref p0, .int a1] w (fun w1 => Q (some (.int (-2))) w1) (fun r2 w1 => ∃ r3, zfR w1 p0 10 10 = some r3 ∧ (zIs w1 r3 3 ∧ zCallI X d MX3_waysOf [.ref r3, .ref r2] w1 (fun x5 w4 => Q (some (.int x5)) w4)))) :
    zRn X d kc ks MX11_selves 0 [some (.ref p0), some (.int a1), none] [] w Q := by
  refine z_aload_n p0 dX11_selves_0 rfl rfl ?_
  refine z_iload_n a1 dX11_selves_1 rfl rfl ?_
  refine zq_VO (N := MX11_orderIn) (As := [.int a1]) m_X11_117 dX11_selves_2 rfl rfl (Nat.le_of_ble_eq_true rfl) h (fun w1 h => ?_) (fun r2 w1 h => ?_)
  · refine z_nstore_n (i := 2) dX11_selves_5 rfl (by decide) rfl ?_
    refine z_nload_n dX11_selves_6 rfl rfl ?_
    refine z_ifnonnullN dX11_selves_7 ?_
    refine z_bipush (-2) dX11_selves_10 rfl ?_
    refine z_goto 23 dX11_selves_12 rfl ?_
    exact z_ireturn .int dX11_selves_23 rfl rfl h
  · refine z_astore_n (i := 2) dX11_selves_5 rfl (by decide) rfl ?_
    refine z_aload_n r2 dX11_selves_6 rfl rfl ?_
    refine z_ifnonnull 15 dX11_selves_7 rfl ?_
    refine z_aload_n p0 dX11_selves_15 rfl rfl ?_
    obtain ⟨r3, e, h⟩ := h
    refine zq_fR f_X11_79 dX11_selves_16 e ?_
    refine z_aload_n r2 dX11_selves_19 rfl rfl ?_
    refine zq_VI (N := MX3_waysOf) (As := [.ref r2]) m_X11_334 dX11_selves_20 rfl rfl (Nat.le_of_ble_eq_true rfl) h (fun x5 w4 h => ?_)
    exact z_ireturn .int dX11_selves_23 rfl rfl h
theorem eX11_selves {X : zX} {d kc ks : Nat} {w : zW} {Q : Option Value → zW → Prop} (p0 : Nat) (a1 : Int32) (h : zRn X d kc ks MX11_selves 0 [some (.ref p0), some (.int a1), none] [] w Q) : zEv X d kc ks MX11_selves [.ref p0, .int a1] w Q :=
  zEv.of (by decide) (Nat.le_of_ble_eq_true rfl) (Or.inr (by simp [Value.category])) h
set_option maxRecDepth 100000 in
set_option maxHeartbeats 4000000 in
theorem bX11_drops_0 {X : zX} {d kc ks : Nat} {w : zW} {Q : Option Value → zW → Prop} (p0 : Nat) (a1 : Int32)
    (h : zCallI X d MX11_isSlot [.int a1] w (fun x2 w1 => if x2 = 0 then (Q (some (.int (-2))) w1) else (zIs w1 p0 10 ∧ zCallO X d MX11_orderIn [.ref p0, .int a1] w1 (fun w3 => zRn X d kc ks MX11_drops 23 [some (.ref p0), some (.int a1), none] [.int 0] w3 Q) (fun r4 w3 => zRn X d kc ks MX11_drops 23 [some (.ref p0), some (.int a1), none] [.int 1] w3 Q)))) :
    zRn X d kc ks MX11_drops 0 [some (.ref p0), some (.int a1), none] [] w Q := by
  refine z_iload_n a1 dX11_drops_0 rfl rfl ?_
  refine zq_SI (N := MX11_isSlot) (As := [.int a1]) m_X11_93 dX11_drops_1 rfl rfl (Nat.le_of_ble_eq_true rfl) h (fun x2 w1 h => ?_)
  refine z_if_ne 10 dX11_drops_4 rfl (fun hc => ?_) (fun hc => ?_)
  · rw [if_neg hc] at h
    refine z_aload_n p0 dX11_drops_10 rfl rfl ?_
    refine z_iload_n a1 dX11_drops_11 rfl rfl ?_
    refine zq_VO (N := MX11_orderIn) (As := [.int a1]) m_X11_117 dX11_drops_12 rfl rfl (Nat.le_of_ble_eq_true rfl) h (fun w3 h => ?_) (fun r4 w3 h => ?_)
    · refine z_ifnullN 22 dX11_drops_15 rfl ?_
      refine z_iconst 0 dX11_drops_22 rfl ?_
      exact h
    · refine z_ifnull dX11_drops_15 ?_
      refine z_iconst 1 dX11_drops_18 rfl ?_
      refine z_goto 23 dX11_drops_19 rfl ?_
      exact h
  · rw [if_pos hc] at h
    refine z_bipush (-2) dX11_drops_7 rfl ?_
    exact z_ireturn .int dX11_drops_9 rfl rfl h
set_option maxRecDepth 100000 in
set_option maxHeartbeats 4000000 in
theorem bX11_drops_23 {X : zX} {d kc ks : Nat} {w : zW} {Q : Option Value → zW → Prop} (v0 : Nat) (v1 : Int32) (u0 : Int32)
    (h : ∃ r1, zfR w v0 10 1 = some r1 ∧ (zIs w r1 5 ∧ zCallV X d MX5_begin [.ref r1, .int 0] w (fun w2 => zIs w2 v0 10 ∧ zCallV X d MX11_become [.ref v0, .int v1] w2 (fun w3 => zCallI X d MX11_bit [.int u0] w3 (fun x5 w4 => Q (some (.int x5)) w4))))) :
    zRn X d kc ks MX11_drops 23 [some (.ref v0), some (.int v1), none] [.int u0] w Q := by
  refine z_istore_n (i := 2) dX11_drops_23 rfl (by decide) rfl ?_
  refine z_aload_n v0 dX11_drops_24 rfl rfl ?_
  obtain ⟨r1, e, h⟩ := h
  refine zq_fR f_X11_16 dX11_drops_25 e ?_
  refine z_iconst 0 dX11_drops_28 rfl ?_
  refine zq_VV (N := MX5_begin) (As := [.int 0]) m_X11_337 dX11_drops_29 rfl rfl (Nat.le_of_ble_eq_true rfl) h (fun w2 h => ?_)
  refine z_aload_n v0 dX11_drops_32 rfl rfl ?_
  refine z_iload_n v1 dX11_drops_33 rfl rfl ?_
  refine zq_VV (N := MX11_become) (As := [.int v1]) m_X11_101 dX11_drops_34 rfl rfl (Nat.le_of_ble_eq_true rfl) h (fun w3 h => ?_)
  refine z_iload_n u0 dX11_drops_37 rfl rfl ?_
  refine zq_SI (N := MX11_bit) (As := [.int u0]) m_X11_175 dX11_drops_38 rfl rfl (Nat.le_of_ble_eq_true rfl) h (fun x5 w4 h => ?_)
  exact z_ireturn .int dX11_drops_41 rfl rfl h
theorem eX11_drops {X : zX} {d kc ks : Nat} {w : zW} {Q : Option Value → zW → Prop} (p0 : Nat) (a1 : Int32) (h : zRn X d kc ks MX11_drops 0 [some (.ref p0), some (.int a1), none] [] w Q) : zEv X d kc ks MX11_drops [.ref p0, .int a1] w Q :=
  zEv.of (by decide) (Nat.le_of_ble_eq_true rfl) (Or.inr (by simp [Value.category])) h
set_option maxRecDepth 100000 in
set_option maxHeartbeats 4000000 in
theorem bX11_undo_0 {X : zX} {d kc ks : Nat} {w : zW} {Q : Option Value → zW → Prop} (p0 : Nat)
    (h : ∃ r1, zfR w p0 10 2 = some r1 ∧ (zIs w r1 6 ∧ zCallI X d MX6_latestSlot [.ref r1] w (fun x3 w2 => zCallI X d MX11_isSlot [.int x3] w2 (fun x5 w4 => if x5 = 0 then (Q (some (.int (-1))) w4) else (∃ r6, zfR w4 p0 10 2 = some r6 ∧ (∃ r7, zfR w4 p0 10 0 = some r7 ∧ (∃ r8, zaR w4 r7 x3 = some r8 ∧ (zIs w4 r6 6 ∧ zCallV X d MX6_giveBack [.ref r6, .ref r8] w4 (fun w9 => ∃ r10, zfR w9 p0 10 2 = some r10 ∧ (zIs w9 r10 6 ∧ zCallI X d MX6_size [.ref r10] w9 (fun x12 w11 => Q (some (.int x12)) w11))))))))))) :
    zRn X d kc ks MX11_undo 0 [some (.ref p0), none] [] w Q := by
  refine z_aload_n p0 dX11_undo_0 rfl rfl ?_
  obtain ⟨r1, e, h⟩ := h
  refine zq_fR f_X11_23 dX11_undo_1 e ?_
  refine zq_VI (N := MX6_latestSlot) (As := []) m_X11_340 dX11_undo_4 rfl rfl (Nat.le_of_ble_eq_true rfl) h (fun x3 w2 h => ?_)
  refine z_istore_n (i := 1) dX11_undo_7 rfl (by decide) rfl ?_
  refine z_iload_n x3 dX11_undo_8 rfl rfl ?_
  refine zq_SI (N := MX11_isSlot) (As := [.int x3]) m_X11_93 dX11_undo_9 rfl rfl (Nat.le_of_ble_eq_true rfl) h (fun x5 w4 h => ?_)
  refine z_if_ne 17 dX11_undo_12 rfl (fun hc => ?_) (fun hc => ?_)
  · rw [if_neg hc] at h
    refine z_aload_n p0 dX11_undo_17 rfl rfl ?_
    obtain ⟨r6, e, h⟩ := h
    refine zq_fR f_X11_23 dX11_undo_18 e ?_
    refine z_aload_n p0 dX11_undo_21 rfl rfl ?_
    obtain ⟨r7, e, h⟩ := h
    refine zq_fR f_X11_11 dX11_undo_22 e ?_
    refine z_iload_n x3 dX11_undo_25 rfl rfl ?_
    obtain ⟨r8, e, h⟩ := h
    refine zq_aR dX11_undo_26 e ?_
    refine zq_VV (N := MX6_giveBack) (As := [.ref r8]) m_X11_343 dX11_undo_27 rfl rfl (Nat.le_of_ble_eq_true rfl) h (fun w9 h => ?_)
    refine z_aload_n p0 dX11_undo_30 rfl rfl ?_
    obtain ⟨r10, e, h⟩ := h
    refine zq_fR f_X11_23 dX11_undo_31 e ?_
    refine zq_VI (N := MX6_size) (As := []) m_X11_116 dX11_undo_34 rfl rfl (Nat.le_of_ble_eq_true rfl) h (fun x12 w11 h => ?_)
    exact z_ireturn .int dX11_undo_37 rfl rfl h
  · rw [if_pos hc] at h
    refine z_iconst (-1) dX11_undo_15 rfl ?_
    exact z_ireturn .int dX11_undo_16 rfl rfl h
theorem eX11_undo {X : zX} {d kc ks : Nat} {w : zW} {Q : Option Value → zW → Prop} (p0 : Nat) (h : zRn X d kc ks MX11_undo 0 [some (.ref p0), none] [] w Q) : zEv X d kc ks MX11_undo [.ref p0] w Q :=
  zEv.of (by decide) (Nat.le_of_ble_eq_true rfl) (Or.inr (by simp [Value.category])) h
set_option maxRecDepth 100000 in
set_option maxHeartbeats 4000000 in
theorem bX11_tell_0 {X : zX} {d kc ks : Nat} {w : zW} {Q : Option Value → zW → Prop} (p0 : Nat) (a1 : Int32)
    (h : zIs w p0 10 ∧ zCallO X d MX11_orderIn [.ref p0, .int a1] w (fun w1 => Q (some (.int (-2))) w1) (fun r2 w1 => ∃ r3, zfR w1 p0 10 4 = some r3 ∧ (zIs w1 r3 0 ∧ zCallV X d MX0_shorten [.ref r3, .int 0] w1 (fun w4 => ∃ r5, zfR w4 p0 10 4 = some r5 ∧ (zIs w4 r2 5 ∧ zCallV X d MX5_writeTo [.ref r2, .ref r5] w4 (fun w6 => ∃ r7, zfR w6 p0 10 4 = some r7 ∧ (zIs w6 r7 0 ∧ zCallI X d MX0_size [.ref r7] w6 (fun x9 w8 => Q (some (.int x9)) w8)))))))) :
    zRn X d kc ks MX11_tell 0 [some (.ref p0), some (.int a1), none] [] w Q := by
  refine z_aload_n p0 dX11_tell_0 rfl rfl ?_
  refine z_iload_n a1 dX11_tell_1 rfl rfl ?_
  refine zq_VO (N := MX11_orderIn) (As := [.int a1]) m_X11_117 dX11_tell_2 rfl rfl (Nat.le_of_ble_eq_true rfl) h (fun w1 h => ?_) (fun r2 w1 h => ?_)
  · refine z_nstore_n (i := 2) dX11_tell_5 rfl (by decide) rfl ?_
    refine z_nload_n dX11_tell_6 rfl rfl ?_
    refine z_ifnonnullN dX11_tell_7 ?_
    refine z_bipush (-2) dX11_tell_10 rfl ?_
    exact z_ireturn .int dX11_tell_12 rfl rfl h
  · refine z_astore_n (i := 2) dX11_tell_5 rfl (by decide) rfl ?_
    refine z_aload_n r2 dX11_tell_6 rfl rfl ?_
    refine z_ifnonnull 13 dX11_tell_7 rfl ?_
    refine z_aload_n p0 dX11_tell_13 rfl rfl ?_
    obtain ⟨r3, e, h⟩ := h
    refine zq_fR f_X11_36 dX11_tell_14 e ?_
    refine z_iconst 0 dX11_tell_17 rfl ?_
    refine zq_VV (N := MX0_shorten) (As := [.int 0]) m_X11_90 dX11_tell_18 rfl rfl (Nat.le_of_ble_eq_true rfl) h (fun w4 h => ?_)
    refine z_aload_n r2 dX11_tell_21 rfl rfl ?_
    refine z_aload_n p0 dX11_tell_22 rfl rfl ?_
    obtain ⟨r5, e, h⟩ := h
    refine zq_fR f_X11_36 dX11_tell_23 e ?_
    refine zq_VV (N := MX5_writeTo) (As := [.ref r5]) m_X11_346 dX11_tell_26 rfl rfl (Nat.le_of_ble_eq_true rfl) h (fun w6 h => ?_)
    refine z_aload_n p0 dX11_tell_29 rfl rfl ?_
    obtain ⟨r7, e, h⟩ := h
    refine zq_fR f_X11_36 dX11_tell_30 e ?_
    refine zq_VI (N := MX0_size) (As := []) m_X11_83 dX11_tell_33 rfl rfl (Nat.le_of_ble_eq_true rfl) h (fun x9 w8 h => ?_)
    exact z_ireturn .int dX11_tell_36 rfl rfl h
theorem eX11_tell {X : zX} {d kc ks : Nat} {w : zW} {Q : Option Value → zW → Prop} (p0 : Nat) (a1 : Int32) (h : zRn X d kc ks MX11_tell 0 [some (.ref p0), some (.int a1), none] [] w Q) : zEv X d kc ks MX11_tell [.ref p0, .int a1] w Q :=
  zEv.of (by decide) (Nat.le_of_ble_eq_true rfl) (Or.inr (by simp [Value.category])) h
set_option maxRecDepth 100000 in
set_option maxHeartbeats 4000000 in
theorem bX11_octet_0 {X : zX} {d kc ks : Nat} {w : zW} {Q : Option Value → zW → Prop} (p0 : Nat) (a1 : Int32)
    (h : ∃ r1, zfR w p0 10 4 = some r1 ∧ (zIs w r1 0 ∧ zCallI X d MX0_byteAt [.ref r1, .int a1] w (fun x3 w2 => Q (some (.int x3)) w2))) :
    zRn X d kc ks MX11_octet 0 [some (.ref p0), some (.int a1)] [] w Q := by
  refine z_aload_n p0 dX11_octet_0 rfl rfl ?_
  obtain ⟨r1, e, h⟩ := h
  refine zq_fR f_X11_36 dX11_octet_1 e ?_
  refine z_iload_n a1 dX11_octet_4 rfl rfl ?_
  refine zq_VI (N := MX0_byteAt) (As := [.int a1]) m_X11_349 dX11_octet_5 rfl rfl (Nat.le_of_ble_eq_true rfl) h (fun x3 w2 h => ?_)
  exact z_ireturn .int dX11_octet_8 rfl rfl h
theorem eX11_octet {X : zX} {d kc ks : Nat} {w : zW} {Q : Option Value → zW → Prop} (p0 : Nat) (a1 : Int32) (h : zRn X d kc ks MX11_octet 0 [some (.ref p0), some (.int a1)] [] w Q) : zEv X d kc ks MX11_octet [.ref p0, .int a1] w Q :=
  zEv.of (by decide) (Nat.le_of_ble_eq_true rfl) (Or.inr (by simp [Value.category])) h
