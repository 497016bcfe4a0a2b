set_option maxRecDepth 100000 in
set_option maxHeartbeats 4000000 in
theorem bX12_init_0 {X : zX} {d kc ks : Nat} {w : zW} {Q : Option Value → zW → Prop} (p0 : Nat)
    (h : 0 < d ∧ ((174 = nI 174 ∧ 174 ≤ 100000 ∧ w.length < zBig ∧ 1 ≤ kc ∧ 174 ≤ ks) ∧ (∃ w2, zsF (w ++ [zI 174 (fun _ => 0)]) p0 11 0 (.ref w.length) = some w2 ∧ ((174 = nI 174 ∧ 174 ≤ 100000 ∧ w2.length < zBig ∧ 1 ≤ (kc - 1) ∧ 174 ≤ (ks - 174)) ∧ (∃ w4, zsF (w2 ++ [zI 174 (fun _ => 0)]) p0 11 1 (.ref w2.length) = some w4 ∧ ((1740 = nI 1740 ∧ 1740 ≤ 100000 ∧ w4.length < zBig ∧ 1 ≤ ((kc - 1) - 1) ∧ 1740 ≤ ((ks - 174) - 174)) ∧ (∃ w6, zsF (w4 ++ [zI 1740 (fun _ => 0)]) p0 11 2 (.ref w4.length) = some w6 ∧ ((400 = nI 400 ∧ 400 ≤ 100000 ∧ w6.length < zBig ∧ 1 ≤ (((kc - 1) - 1) - 1) ∧ 400 ≤ (((ks - 174) - 174) - 1740)) ∧ (∃ w8, zsF (w6 ++ [zI 400 (fun _ => 0)]) p0 11 4 (.ref w6.length) = some w8 ∧ (∃ w9, zsF w8 p0 11 7 (.int (-1)) = some w9 ∧ ((8 = nI 8 ∧ 8 ≤ 100000 ∧ w9.length < zBig ∧ 1 ≤ ((((kc - 1) - 1) - 1) - 1) ∧ 8 ≤ ((((ks - 174) - 174) - 1740) - 400)) ∧ (∃ w11, zsF (w9 ++ [zI 8 (fun _ => 0)]) p0 11 13 (.ref w9.length) = some w11 ∧ ((256 = nI 256 ∧ 256 ≤ 100000 ∧ w11.length < zBig ∧ 1 ≤ (((((kc - 1) - 1) - 1) - 1) - 1) ∧ 256 ≤ (((((ks - 174) - 174) - 1740) - 400) - 8)) ∧ (∃ w13, zsF (w11 ++ [zI 256 (fun _ => 0)]) p0 11 14 (.ref w11.length) = some w13 ∧ ((256 = nI 256 ∧ 256 ≤ 100000 ∧ w13.length < zBig ∧ 1 ≤ ((((((kc - 1) - 1) - 1) - 1) - 1) - 1) ∧ 256 ≤ ((((((ks - 174) - 174) - 1740) - 400) - 8) - 256)) ∧ (∃ w15, zsF (w13 ++ [zI 256 (fun _ => 0)]) p0 11 15 (.ref w13.length) = some w15 ∧ ((8 = nI 8 ∧ 8 ≤ 100000 ∧ w15.length < zBig ∧ 1 ≤ (((((((kc - 1) - 1) - 1) - 1) - 1) - 1) - 1) ∧ 8 ≤ (((((((ks - 174) - 174) - 1740) - 400) - 8) - 256) - 256)) ∧ (∃ w17, zsF (w15 ++ [zI 8 (fun _ => 0)]) p0 11 17 (.ref w15.length) = some w17 ∧ ((2048 = nI 2048 ∧ 2048 ≤ 100000 ∧ w17.length < zBig ∧ 1 ≤ ((((((((kc - 1) - 1) - 1) - 1) - 1) - 1) - 1) - 1) ∧ 2048 ≤ ((((((((ks - 174) - 174) - 1740) - 400) - 8) - 256) - 256) - 8)) ∧ (∃ w19, zsF (w17 ++ [zI 2048 (fun _ => 0)]) p0 11 18 (.ref w17.length) = some w19 ∧ ((56 = nI 56 ∧ 56 ≤ 100000 ∧ w19.length < zBig ∧ 1 ≤ (((((((((kc - 1) - 1) - 1) - 1) - 1) - 1) - 1) - 1) - 1) ∧ 56 ≤ (((((((((ks - 174) - 174) - 1740) - 400) - 8) - 256) - 256) - 8) - 2048)) ∧ (∃ w21, zsF (w19 ++ [zI 56 (fun _ => 0)]) p0 11 19 (.ref w19.length) = some w21 ∧ ((56 = nI 56 ∧ 56 ≤ 100000 ∧ w21.length < zBig ∧ 1 ≤ ((((((((((kc - 1) - 1) - 1) - 1) - 1) - 1) - 1) - 1) - 1) - 1) ∧ 56 ≤ ((((((((((ks - 174) - 174) - 1740) - 400) - 8) - 256) - 256) - 8) - 2048) - 56)) ∧ (∃ w23, zsF (w21 ++ [zI 56 (fun _ => 0)]) p0 11 20 (.ref w21.length) = some w23 ∧ ((32 = nI 32 ∧ 32 ≤ 100000 ∧ w23.length < zBig ∧ 1 ≤ (((((((((((kc - 1) - 1) - 1) - 1) - 1) - 1) - 1) - 1) - 1) - 1) - 1) ∧ 32 ≤ (((((((((((ks - 174) - 174) - 1740) - 400) - 8) - 256) - 256) - 8) - 2048) - 56) - 56)) ∧ (∃ w25, zsF (w23 ++ [zI 32 (fun _ => 0)]) p0 11 22 (.ref w23.length) = some w25 ∧ ((56 = nI 56 ∧ 56 ≤ 100000 ∧ w25.length < zBig ∧ 1 ≤ ((((((((((((kc - 1) - 1) - 1) - 1) - 1) - 1) - 1) - 1) - 1) - 1) - 1) - 1) ∧ 56 ≤ ((((((((((((ks - 174) - 174) - 1740) - 400) - 8) - 256) - 256) - 8) - 2048) - 56) - 56) - 32)) ∧ (∃ w27, zsF (w25 ++ [zI 56 (fun _ => 0)]) p0 11 24 (.ref w25.length) = some w27 ∧ ((8 = nI 8 ∧ 8 ≤ 100000 ∧ w27.length < zBig ∧ 1 ≤ (((((((((((((kc - 1) - 1) - 1) - 1) - 1) - 1) - 1) - 1) - 1) - 1) - 1) - 1) - 1) ∧ 8 ≤ (((((((((((((ks - 174) - 174) - 1740) - 400) - 8) - 256) - 256) - 8) - 2048) - 56) - 56) - 32) - 56)) ∧ (∃ w29, zsF (w27 ++ [zI 8 (fun _ => 0)]) p0 11 25 (.ref w27.length) = some w29 ∧ ((8 = nI 8 ∧ 8 ≤ 100000 ∧ w29.length < zBig ∧ 1 ≤ ((((((((((((((kc - 1) - 1) - 1) - 1) - 1) - 1) - 1) - 1) - 1) - 1) - 1) - 1) - 1) - 1) ∧ 8 ≤ ((((((((((((((ks - 174) - 174) - 1740) - 400) - 8) - 256) - 256) - 8) - 2048) - 56) - 56) - 32) - 56) - 8)) ∧ (∃ w31, zsF (w29 ++ [zI 8 (fun _ => 0)]) p0 11 26 (.ref w29.length) = some w31 ∧ ((400 = nI 400 ∧ 400 ≤ 100000 ∧ w31.length < zBig ∧ 1 ≤ (((((((((((((((kc - 1) - 1) - 1) - 1) - 1) - 1) - 1) - 1) - 1) - 1) - 1) - 1) - 1) - 1) - 1) ∧ 400 ≤ (((((((((((((((ks - 174) - 174) - 1740) - 400) - 8) - 256) - 256) - 8) - 2048) - 56) - 56) - 32) - 56) - 8) - 8)) ∧ (∃ w33, zsF (w31 ++ [zI 400 (fun _ => 0)]) p0 11 27 (.ref w31.length) = some w33 ∧ (Q none w33))))))))))))))))))))))))))))))))))) :
    zRn X d kc ks MX12_init 0 [some (.ref p0)] [] w Q := by
  refine z_aload_n p0 dX12_init_0 rfl rfl ?_
  refine z_objInit g_1208 g_127 g_128 dX12_init_1 (Nat.le_of_ble_eq_true rfl) h.1 ?_
  have h := h.2
  refine z_aload_n p0 dX12_init_4 rfl rfl ?_
  refine z_sipush 174 dX12_init_5 rfl ?_
  refine zq_newa (N := 174) g_149 dX12_init_8 h.1 ?_
  have h := h.2
  obtain ⟨w2, e, h⟩ := h
  refine zq_sFf f_X12_7 rfl dX12_init_10 (fun _ => rfl) (fun _ => rfl) e ?_
  refine z_aload_n p0 dX12_init_13 rfl rfl ?_
  refine z_sipush 174 dX12_init_14 rfl ?_
  refine zq_newa (N := 174) g_149 dX12_init_17 h.1 ?_
  have h := h.2
  obtain ⟨w4, e, h⟩ := h
  refine zq_sFf f_X12_13 rfl dX12_init_19 (fun _ => rfl) (fun _ => rfl) e ?_
  refine z_aload_n p0 dX12_init_22 rfl rfl ?_
  refine z_sipush 1740 dX12_init_23 rfl ?_
  refine zq_newa (N := 1740) g_149 dX12_init_26 h.1 ?_
  have h := h.2
  obtain ⟨w6, e, h⟩ := h
  refine zq_sFf f_X12_16 rfl dX12_init_28 (fun _ => rfl) (fun _ => rfl) e ?_
  refine z_aload_n p0 dX12_init_31 rfl rfl ?_
  refine z_sipush 400 dX12_init_32 rfl ?_
  refine zq_newa (N := 400) g_149 dX12_init_35 h.1 ?_
  have h := h.2
  obtain ⟨w8, e, h⟩ := h
  refine zq_sFf f_X12_19 rfl dX12_init_37 (fun _ => rfl) (fun _ => rfl) e ?_
  refine z_aload_n p0 dX12_init_40 rfl rfl ?_
  refine z_iconst (-1) dX12_init_41 rfl ?_
  obtain ⟨w9, e, h⟩ := h
  refine zq_sF f_X12_22 dX12_init_42 (fun _ => rfl) (fun _ => rfl) e ?_
  refine z_aload_n p0 dX12_init_45 rfl rfl ?_
  refine z_bipush 8 dX12_init_46 rfl ?_
  refine zq_newa (N := 8) g_149 dX12_init_48 h.1 ?_
  have h := h.2
  obtain ⟨w11, e, h⟩ := h
  refine zq_sFf f_X12_26 rfl dX12_init_50 (fun _ => rfl) (fun _ => rfl) e ?_
  refine z_aload_n p0 dX12_init_53 rfl rfl ?_
  refine z_sipush 256 dX12_init_54 rfl ?_
  refine zq_newa (N := 256) g_149 dX12_init_57 h.1 ?_
  have h := h.2
  obtain ⟨w13, e, h⟩ := h
  refine zq_sFf f_X12_29 rfl dX12_init_59 (fun _ => rfl) (fun _ => rfl) e ?_
  refine z_aload_n p0 dX12_init_62 rfl rfl ?_
  refine z_sipush 256 dX12_init_63 rfl ?_
  refine zq_newa (N := 256) g_149 dX12_init_66 h.1 ?_
  have h := h.2
  obtain ⟨w15, e, h⟩ := h
  refine zq_sFf f_X12_32 rfl dX12_init_68 (fun _ => rfl) (fun _ => rfl) e ?_
  refine z_aload_n p0 dX12_init_71 rfl rfl ?_
  refine z_bipush 8 dX12_init_72 rfl ?_
  refine zq_newa (N := 8) g_149 dX12_init_74 h.1 ?_
  have h := h.2
  obtain ⟨w17, e, h⟩ := h
  refine zq_sFf f_X12_35 rfl dX12_init_76 (fun _ => rfl) (fun _ => rfl) e ?_
  refine z_aload_n p0 dX12_init_79 rfl rfl ?_
  refine z_sipush 2048 dX12_init_80 rfl ?_
  refine zq_newa (N := 2048) g_149 dX12_init_83 h.1 ?_
  have h := h.2
  obtain ⟨w19, e, h⟩ := h
  refine zq_sFf f_X12_38 rfl dX12_init_85 (fun _ => rfl) (fun _ => rfl) e ?_
  refine z_aload_n p0 dX12_init_88 rfl rfl ?_
  refine z_bipush 56 dX12_init_89 rfl ?_
  refine zq_newa (N := 56) g_149 dX12_init_91 h.1 ?_
  have h := h.2
  obtain ⟨w21, e, h⟩ := h
  refine zq_sFf f_X12_41 rfl dX12_init_93 (fun _ => rfl) (fun _ => rfl) e ?_
  refine z_aload_n p0 dX12_init_96 rfl rfl ?_
  refine z_bipush 56 dX12_init_97 rfl ?_
  refine zq_newa (N := 56) g_149 dX12_init_99 h.1 ?_
  have h := h.2
  obtain ⟨w23, e, h⟩ := h
  refine zq_sFf f_X12_44 rfl dX12_init_101 (fun _ => rfl) (fun _ => rfl) e ?_
  refine z_aload_n p0 dX12_init_104 rfl rfl ?_
  refine z_bipush 32 dX12_init_105 rfl ?_
  refine zq_newa (N := 32) g_149 dX12_init_107 h.1 ?_
  have h := h.2
  obtain ⟨w25, e, h⟩ := h
  refine zq_sFf f_X12_47 rfl dX12_init_109 (fun _ => rfl) (fun _ => rfl) e ?_
  refine z_aload_n p0 dX12_init_112 rfl rfl ?_
  refine z_bipush 56 dX12_init_113 rfl ?_
  refine zq_newa (N := 56) g_149 dX12_init_115 h.1 ?_
  have h := h.2
  obtain ⟨w27, e, h⟩ := h
  refine zq_sFf f_X12_50 rfl dX12_init_117 (fun _ => rfl) (fun _ => rfl) e ?_
  refine z_aload_n p0 dX12_init_120 rfl rfl ?_
  refine z_bipush 8 dX12_init_121 rfl ?_
  refine zq_newa (N := 8) g_149 dX12_init_123 h.1 ?_
  have h := h.2
  obtain ⟨w29, e, h⟩ := h
  refine zq_sFf f_X12_53 rfl dX12_init_125 (fun _ => rfl) (fun _ => rfl) e ?_
  refine z_aload_n p0 dX12_init_128 rfl rfl ?_
  refine z_bipush 8 dX12_init_129 rfl ?_
  refine zq_newa (N := 8) g_149 dX12_init_131 h.1 ?_
  have h := h.2
  obtain ⟨w31, e, h⟩ := h
  refine zq_sFf f_X12_56 rfl dX12_init_133 (fun _ => rfl) (fun _ => rfl) e ?_
  refine z_aload_n p0 dX12_init_136 rfl rfl ?_
  refine z_sipush 400 dX12_init_137 rfl ?_
  refine zq_newa (N := 400) g_149 dX12_init_140 h.1 ?_
  have h := h.2
  obtain ⟨w33, e, h⟩ := h
  refine zq_sFf f_X12_59 rfl dX12_init_142 (fun _ => rfl) (fun _ => rfl) e ?_
  exact z_vreturn dX12_init_145 rfl h
theorem eX12_init {X : zX} {d kc ks : Nat} {w : zW} {Q : Option Value → zW → Prop} (p0 : Nat) (h : zRn X d kc ks MX12_init 0 [some (.ref p0)] [] w Q) : zEv X d kc ks MX12_init [.ref p0] w Q :=
  zEv.of (by decide) (Nat.le_of_ble_eq_true rfl) (Or.inr (by simp [Value.category])) h
set_option maxRecDepth 100000 in
set_option maxHeartbeats 4000000 in
theorem bX12_undo_0 {X : zX} {d kc ks : Nat} {w : zW} {Q : Option Value → zW → Prop} (p0 : Nat)
    (h : ∃ x1, zfI w p0 11 3 = some x1 ∧ (if x1 = 0 then (Q (some (.int (-1))) w) else (∃ x2, zfI w p0 11 3 = some x2 ∧ (∃ w3, zsF w p0 11 3 (.int (x2 - 1)) = some w3 ∧ (zRn X d kc ks MX12_undo 21 [some (.ref p0), some (.int 0)] [] w3 Q))))) :
    zRn X d kc ks MX12_undo 0 [some (.ref p0), none] [] w Q := by
  refine z_aload_n p0 dX12_undo_0 rfl rfl ?_
  obtain ⟨x1, e, h⟩ := h
  refine zq_fI f_X12_103 dX12_undo_1 e ?_
  refine z_if_ne 9 dX12_undo_4 rfl (fun hc => ?_) (fun hc => ?_)
  · rw [if_neg hc] at h
    refine z_aload_n p0 dX12_undo_9 rfl rfl ?_
    refine z_dup dX12_undo_10 rfl ?_
    obtain ⟨x2, e, h⟩ := h
    refine zq_fI f_X12_103 dX12_undo_11 e ?_
    refine z_iconst 1 dX12_undo_14 rfl ?_
    refine z_isub dX12_undo_15 ?_
    obtain ⟨w3, e, h⟩ := h
    refine zq_sF f_X12_103 dX12_undo_16 (fun _ => rfl) (fun _ => rfl) e ?_
    refine z_iconst 0 dX12_undo_19 rfl ?_
    refine z_istore_n (i := 1) dX12_undo_20 rfl (by decide) rfl ?_
    exact h
  · rw [if_pos hc] at h
    refine z_iconst (-1) dX12_undo_7 rfl ?_
    exact z_ireturn .int dX12_undo_8 rfl rfl h
set_option maxRecDepth 100000 in
set_option maxHeartbeats 4000000 in
theorem bX12_undo_21 {X : zX} {d kc ks : Nat} {w : zW} {Q : Option Value → zW → Prop} (v0 : Nat) (v1 : Int32)
    (h : if 174 ≤ v1 then (∃ x1, zfI w v0 11 3 = some x1 ∧ (Q (some (.int x1)) w)) else (∃ r2, zfR w v0 11 0 = some r2 ∧ (∃ r3, zfR w v0 11 2 = some r3 ∧ (∃ x4, zfI w v0 11 3 = some x4 ∧ (∃ x5, zaI w r3 (((174 : Int32) * x4) + v1) = some x5 ∧ (∃ w6, zsI w r2 v1 x5 = some w6 ∧ (zRn X d kc ks MX12_undo 21 [some (.ref v0), some (.int (v1 + 1))] [] w6 Q))))))) :
    zRn X d kc ks MX12_undo 21 [some (.ref v0), some (.int v1)] [] w Q := by
  refine z_iload_n v1 dX12_undo_21 rfl rfl ?_
  refine z_sipush 174 dX12_undo_22 rfl ?_
  refine z_icmp_ge 55 dX12_undo_25 rfl (fun hc => ?_) (fun hc => ?_)
  · rw [if_pos hc] at h
    refine z_aload_n v0 dX12_undo_55 rfl rfl ?_
    obtain ⟨x1, e, h⟩ := h
    refine zq_fI f_X12_103 dX12_undo_56 e ?_
    exact z_ireturn .int dX12_undo_59 rfl rfl h
  · rw [if_neg hc] at h
    refine z_aload_n v0 dX12_undo_28 rfl rfl ?_
    obtain ⟨r2, e, h⟩ := h
    refine zq_fR f_X12_7 dX12_undo_29 e ?_
    refine z_iload_n v1 dX12_undo_32 rfl rfl ?_
    refine z_aload_n v0 dX12_undo_33 rfl rfl ?_
    obtain ⟨r3, e, h⟩ := h
    refine zq_fR f_X12_16 dX12_undo_34 e ?_
    refine z_sipush 174 dX12_undo_37 rfl ?_
    refine z_aload_n v0 dX12_undo_40 rfl rfl ?_
    obtain ⟨x4, e, h⟩ := h
    refine zq_fI f_X12_103 dX12_undo_41 e ?_
    refine z_imul dX12_undo_44 ?_
    refine z_iload_n v1 dX12_undo_45 rfl rfl ?_
    refine z_iadd dX12_undo_46 ?_
    obtain ⟨x5, e, h⟩ := h
    refine zq_aI dX12_undo_47 e ?_
    obtain ⟨w6, e, h⟩ := h
    refine zq_sI dX12_undo_48 e ?_
    refine z_iinc (i := 1) v1 (v1 + 1) dX12_undo_49 rfl rfl (by decide) rfl ?_
    refine z_goto 21 dX12_undo_52 rfl ?_
    exact h
theorem eX12_undo {X : zX} {d kc ks : Nat} {w : zW} {Q : Option Value → zW → Prop} (p0 : Nat) (h : zRn X d kc ks MX12_undo 0 [some (.ref p0), none] [] w Q) : zEv X d kc ks MX12_undo [.ref p0] w Q :=
  zEv.of (by decide) (Nat.le_of_ble_eq_true rfl) (Or.inr (by simp [Value.category])) h
set_option maxRecDepth 100000 in
set_option maxHeartbeats 4000000 in
theorem bX12_drops_0 {X : zX} {d kc ks : Nat} {w : zW} {Q : Option Value → zW → Prop} (p0 : Nat) (a1 : Int32)
    (h : zCallI X d MX12_isSlot [.int a1] w (fun x2 w1 => if x2 = 0 then (Q (some (.int (-2))) w1) else (zIs w1 p0 11 ∧ zCallI X d MX12_isOrder [.ref p0, .int a1] w1 (fun x4 w3 => if x4 = 0 then (Q (some (.int 0)) w3) else (zIs w3 p0 11 ∧ zCallV X d MX12_remembers [.ref p0] w3 (fun w5 => zIs w5 p0 11 ∧ zCallV X d MX12_empties [.ref p0, .int a1] w5 (fun w6 => zIs w6 p0 11 ∧ zCallI X d MX12_keeps [.ref p0, .int 1] w6 (fun x8 w7 => Q (some (.int x8)) w7)))))))) :
    zRn X d kc ks MX12_drops 0 [some (.ref p0), some (.int a1)] [] w Q := by
  refine z_iload_n a1 dX12_drops_0 rfl rfl ?_
  refine zq_SI (N := MX12_isSlot) (As := [.int a1]) m_X12_72 dX12_drops_1 rfl rfl (Nat.le_of_ble_eq_true rfl) h (fun x2 w1 h => ?_)
  refine z_if_ne 10 dX12_drops_4 rfl (fun hc => ?_) (fun hc => ?_)
  · rw [if_neg hc] at h
    refine z_aload_n p0 dX12_drops_10 rfl rfl ?_
    refine z_iload_n a1 dX12_drops_11 rfl rfl ?_
    refine zq_VI (N := MX12_isOrder) (As := [.int a1]) m_X12_80 dX12_drops_12 rfl rfl (Nat.le_of_ble_eq_true rfl) h (fun x4 w3 h => ?_)
    refine z_if_ne 20 dX12_drops_15 rfl (fun hc => ?_) (fun hc => ?_)
    · rw [if_neg hc] at h
      refine z_aload_n p0 dX12_drops_20 rfl rfl ?_
      refine zq_VV (N := MX12_remembers) (As := []) m_X12_113 dX12_drops_21 rfl rfl (Nat.le_of_ble_eq_true rfl) h (fun w5 h => ?_)
      refine z_aload_n p0 dX12_drops_24 rfl rfl ?_
      refine z_iload_n a1 dX12_drops_25 rfl rfl ?_
      refine zq_VV (N := MX12_empties) (As := [.int a1]) m_X12_116 dX12_drops_26 rfl rfl (Nat.le_of_ble_eq_true rfl) h (fun w6 h => ?_)
      refine z_aload_n p0 dX12_drops_29 rfl rfl ?_
      refine z_iconst 1 dX12_drops_30 rfl ?_
      refine zq_VI (N := MX12_keeps) (As := [.int 1]) m_X12_106 dX12_drops_31 rfl rfl (Nat.le_of_ble_eq_true rfl) h (fun x8 w7 h => ?_)
      exact z_ireturn .int dX12_drops_34 rfl rfl h
    · rw [if_pos hc] at h
      refine z_iconst 0 dX12_drops_18 rfl ?_
      exact z_ireturn .int dX12_drops_19 rfl rfl h
  · rw [if_pos hc] at h
    refine z_bipush (-2) dX12_drops_7 rfl ?_
    exact z_ireturn .int dX12_drops_9 rfl rfl h
theorem eX12_drops {X : zX} {d kc ks : Nat} {w : zW} {Q : Option Value → zW → Prop} (p0 : Nat) (a1 : Int32) (h : zRn X d kc ks MX12_drops 0 [some (.ref p0), some (.int a1)] [] w Q) : zEv X d kc ks MX12_drops [.ref p0, .int a1] w Q :=
  zEv.of (by decide) (Nat.le_of_ble_eq_true rfl) (Or.inr (by simp [Value.category])) h
set_option maxRecDepth 100000 in
set_option maxHeartbeats 4000000 in
theorem bX12_isSlot_0 {X : zX} {d kc ks : Nat} {w : zW} {Q : Option Value → zW → Prop} (a0 : Int32)
    (h : zCallI X d MX12_in [.long ((a0 : Int32).toInt64), .long 0, .long 2] w (fun x2 w1 => zBool x2 ∧ Q (some (.int x2)) w1)) :
    zRn X d kc ks MX12_isSlot 0 [some (.int a0)] [] w Q := by
  refine z_iload_n a0 dX12_isSlot_0 rfl rfl ?_
  refine z_i2l dX12_isSlot_1 ?_
  refine z_lconst 0 dX12_isSlot_2 rfl ?_
  refine z_ldc2 2 g_1308 dX12_isSlot_3 ?_
  refine zq_SI (N := MX12_in) (As := [.long ((a0 : Int32).toInt64), .long 0, .long 2]) m_X12_64 dX12_isSlot_6 rfl rfl (Nat.le_of_ble_eq_true rfl) h (fun x2 w1 h => ?_)
  exact z_ireturn .boolean dX12_isSlot_9 rfl (zBool_n h.1) h.2
theorem eX12_isSlot {X : zX} {d kc ks : Nat} {w : zW} {Q : Option Value → zW → Prop} (a0 : Int32) (h : zRn X d kc ks MX12_isSlot 0 [some (.int a0)] [] w Q) : zEv X d kc ks MX12_isSlot [.int a0] w Q :=
  zEv.of (by decide) (Nat.le_of_ble_eq_true rfl) (Or.inr (by simp [Value.category])) h
set_option maxRecDepth 100000 in
set_option maxHeartbeats 4000000 in
theorem bX12_in_0 {X : zX} {d kc ks : Nat} {w : zW} {Q : Option Value → zW → Prop} (a0 : Int64) (a1 : Int64) (a2 : Int64)
    (h : if (lg_cmp a0 a1) < 0 then (Q (some (.int 0)) w) else (if 0 < (lg_cmp a0 a2) then (Q (some (.int 0)) w) else (Q (some (.int 1)) w))) :
    zRn X d kc ks MX12_in 0 [some (.long a0), none, some (.long a1), none, some (.long a2), none] [] w Q := by
  refine z_lload_n a0 dX12_in_0 rfl rfl ?_
  refine z_lload_n a1 dX12_in_1 rfl rfl ?_
  refine z_lcmp dX12_in_2 ?_
  refine z_if_lt 17 dX12_in_3 rfl (fun hc => ?_) (fun hc => ?_)
  · rw [if_pos hc] at h
    refine z_iconst 0 dX12_in_17 rfl ?_
    exact z_ireturn .boolean dX12_in_18 rfl rfl h
  · rw [if_neg hc] at h
    refine z_lload_n a0 dX12_in_6 rfl rfl ?_
    refine z_lload a2 dX12_in_7 rfl ?_
    refine z_lcmp dX12_in_9 ?_
    refine z_if_gt 17 dX12_in_10 rfl (fun hc => ?_) (fun hc => ?_)
    · rw [if_pos hc] at h
      refine z_iconst 0 dX12_in_17 rfl ?_
      exact z_ireturn .boolean dX12_in_18 rfl rfl h
    · rw [if_neg hc] at h
      refine z_iconst 1 dX12_in_13 rfl ?_
      refine z_goto 18 dX12_in_14 rfl ?_
      exact z_ireturn .boolean dX12_in_18 rfl rfl h
theorem eX12_in {X : zX} {d kc ks : Nat} {w : zW} {Q : Option Value → zW → Prop} (a0 : Int64) (a1 : Int64) (a2 : Int64) (h : zRn X d kc ks MX12_in 0 [some (.long a0), none, some (.long a1), none, some (.long a2), none] [] w Q) : zEv X d kc ks MX12_in [.long a0, .long a1, .long a2] w Q :=
  zEv.of (by decide) (Nat.le_of_ble_eq_true rfl) (Or.inl rfl) h
set_option maxRecDepth 100000 in
set_option maxHeartbeats 4000000 in
theorem bX12_isOrder_0 {X : zX} {d kc ks : Nat} {w : zW} {Q : Option Value → zW → Prop} (p0 : Nat) (a1 : Int32)
    (h : zCallI X d MX12_isSlot [.int a1] w (fun x2 w1 => if x2 = 0 then (Q (some (.int 0)) w1) else (zIs w1 p0 11 ∧ zCallI X d MX12_many [.ref p0, .int a1] w1 (fun x4 w3 => if x4 ≤ 0 then (Q (some (.int 0)) w3) else (Q (some (.int 1)) w3))))) :
    zRn X d kc ks MX12_isOrder 0 [some (.ref p0), some (.int a1)] [] w Q := by
  refine z_iload_n a1 dX12_isOrder_0 rfl rfl ?_
  refine zq_SI (N := MX12_isSlot) (As := [.int a1]) m_X12_72 dX12_isOrder_1 rfl rfl (Nat.le_of_ble_eq_true rfl) h (fun x2 w1 h => ?_)
  refine z_if_eq 19 dX12_isOrder_4 rfl (fun hc => ?_) (fun hc => ?_)
  · rw [if_pos hc] at h
    refine z_iconst 0 dX12_isOrder_19 rfl ?_
    exact z_ireturn .boolean dX12_isOrder_20 rfl rfl h
  · rw [if_neg hc] at h
    refine z_aload_n p0 dX12_isOrder_7 rfl rfl ?_
    refine z_iload_n a1 dX12_isOrder_8 rfl rfl ?_
    refine zq_VI (N := MX12_many) (As := [.int a1]) m_X12_76 dX12_isOrder_9 rfl rfl (Nat.le_of_ble_eq_true rfl) h (fun x4 w3 h => ?_)
    refine z_if_le 19 dX12_isOrder_12 rfl (fun hc => ?_) (fun hc => ?_)
    · rw [if_pos hc] at h
      refine z_iconst 0 dX12_isOrder_19 rfl ?_
      exact z_ireturn .boolean dX12_isOrder_20 rfl rfl h
    · rw [if_neg hc] at h
      refine z_iconst 1 dX12_isOrder_15 rfl ?_
      refine z_goto 20 dX12_isOrder_16 rfl ?_
      exact z_ireturn .boolean dX12_isOrder_20 rfl rfl h
theorem eX12_isOrder {X : zX} {d kc ks : Nat} {w : zW} {Q : Option Value → zW → Prop} (p0 : Nat) (a1 : Int32) (h : zRn X d kc ks MX12_isOrder 0 [some (.ref p0), some (.int a1)] [] w Q) : zEv X d kc ks MX12_isOrder [.ref p0, .int a1] w Q :=
  zEv.of (by decide) (Nat.le_of_ble_eq_true rfl) (Or.inr (by simp [Value.category])) h
set_option maxRecDepth 100000 in
set_option maxHeartbeats 4000000 in
theorem bX12_many_0 {X : zX} {d kc ks : Nat} {w : zW} {Q : Option Value → zW → Prop} (p0 : Nat) (a1 : Int32)
    (h : zIs w p0 11 ∧ zCallI X d MX12_of [.ref p0, .int a1, .int 0] w (fun x2 w1 => Q (some (.int x2)) w1)) :
    zRn X d kc ks MX12_many 0 [some (.ref p0), some (.int a1)] [] w Q := by
  refine z_aload_n p0 dX12_many_0 rfl rfl ?_
  refine z_iload_n a1 dX12_many_1 rfl rfl ?_
  refine z_iconst 0 dX12_many_2 rfl ?_
  refine zq_VI (N := MX12_of) (As := [.int a1, .int 0]) m_X12_68 dX12_many_3 rfl rfl (Nat.le_of_ble_eq_true rfl) h (fun x2 w1 h => ?_)
  exact z_ireturn .int dX12_many_6 rfl rfl h
theorem eX12_many {X : zX} {d kc ks : Nat} {w : zW} {Q : Option Value → zW → Prop} (p0 : Nat) (a1 : Int32) (h : zRn X d kc ks MX12_many 0 [some (.ref p0), some (.int a1)] [] w Q) : zEv X d kc ks MX12_many [.ref p0, .int a1] w Q :=
  zEv.of (by decide) (Nat.le_of_ble_eq_true rfl) (Or.inr (by simp [Value.category])) h
set_option maxRecDepth 100000 in
set_option maxHeartbeats 4000000 in
theorem bX12_of_0 {X : zX} {d kc ks : Nat} {w : zW} {Q : Option Value → zW → Prop} (p0 : Nat) (a1 : Int32) (a2 : Int32)
    (h : ∃ r1, zfR w p0 11 0 = some r1 ∧ (∃ x2, zaI w r1 (((58 : Int32) * a1) + a2) = some x2 ∧ (Q (some (.int x2)) w))) :
    zRn X d kc ks MX12_of 0 [some (.ref p0), some (.int a1), some (.int a2)] [] w Q := by
  refine z_aload_n p0 dX12_of_0 rfl rfl ?_
  obtain ⟨r1, e, h⟩ := h
  refine zq_fR f_X12_7 dX12_of_1 e ?_
  refine z_bipush 58 dX12_of_4 rfl ?_
  refine z_iload_n a1 dX12_of_6 rfl rfl ?_
  refine z_imul dX12_of_7 ?_
  refine z_iload_n a2 dX12_of_8 rfl rfl ?_
  refine z_iadd dX12_of_9 ?_
  obtain ⟨x2, e, h⟩ := h
  refine zq_aI dX12_of_10 e ?_
  exact z_ireturn .int dX12_of_11 rfl rfl h
theorem eX12_of {X : zX} {d kc ks : Nat} {w : zW} {Q : Option Value → zW → Prop} (p0 : Nat) (a1 : Int32) (a2 : Int32) (h : zRn X d kc ks MX12_of 0 [some (.ref p0), some (.int a1), some (.int a2)] [] w Q) : zEv X d kc ks MX12_of [.ref p0, .int a1, .int a2] w Q :=
  zEv.of (by decide) (Nat.le_of_ble_eq_true rfl) (Or.inr (by simp [Value.category])) h
set_option maxRecDepth 100000 in
set_option maxHeartbeats 4000000 in
theorem bX12_remembers_0 {X : zX} {d kc ks : Nat} {w : zW} {Q : Option Value → zW → Prop} (p0 : Nat)
    (h : zRn X d kc ks MX12_remembers 2 [some (.ref p0), some (.int 0)] [] w Q) :
    zRn X d kc ks MX12_remembers 0 [some (.ref p0), none] [] w Q := by
  refine z_iconst 0 dX12_remembers_0 rfl ?_
  refine z_istore_n (i := 1) dX12_remembers_1 rfl (by decide) rfl ?_
  exact h
set_option maxRecDepth 100000 in
set_option maxHeartbeats 4000000 in
theorem bX12_remembers_2 {X : zX} {d kc ks : Nat} {w : zW} {Q : Option Value → zW → Prop} (v0 : Nat) (v1 : Int32)
    (h : if 174 ≤ v1 then (Q none w) else (∃ r1, zfR w v0 11 1 = some r1 ∧ (∃ r2, zfR w v0 11 0 = some r2 ∧ (∃ x3, zaI w r2 v1 = some x3 ∧ (∃ w4, zsI w r1 v1 x3 = some w4 ∧ (zRn X d kc ks MX12_remembers 2 [some (.ref v0), some (.int (v1 + 1))] [] w4 Q)))))) :
    zRn X d kc ks MX12_remembers 2 [some (.ref v0), some (.int v1)] [] w Q := by
  refine z_iload_n v1 dX12_remembers_2 rfl rfl ?_
  refine z_sipush 174 dX12_remembers_3 rfl ?_
  refine z_icmp_ge 27 dX12_remembers_6 rfl (fun hc => ?_) (fun hc => ?_)
  · rw [if_pos hc] at h
    exact z_vreturn dX12_remembers_27 rfl h
  · rw [if_neg hc] at h
    refine z_aload_n v0 dX12_remembers_9 rfl rfl ?_
    obtain ⟨r1, e, h⟩ := h
    refine zq_fR f_X12_13 dX12_remembers_10 e ?_
    refine z_iload_n v1 dX12_remembers_13 rfl rfl ?_
    refine z_aload_n v0 dX12_remembers_14 rfl rfl ?_
    obtain ⟨r2, e, h⟩ := h
    refine zq_fR f_X12_7 dX12_remembers_15 e ?_
    refine z_iload_n v1 dX12_remembers_18 rfl rfl ?_
    obtain ⟨x3, e, h⟩ := h
    refine zq_aI dX12_remembers_19 e ?_
    obtain ⟨w4, e, h⟩ := h
    refine zq_sI dX12_remembers_20 e ?_
    refine z_iinc (i := 1) v1 (v1 + 1) dX12_remembers_21 rfl rfl (by decide) rfl ?_
    refine z_goto 2 dX12_remembers_24 rfl ?_
    exact h
theorem eX12_remembers {X : zX} {d kc ks : Nat} {w : zW} {Q : Option Value → zW → Prop} (p0 : Nat) (h : zRn X d kc ks MX12_remembers 0 [some (.ref p0), none] [] w Q) : zEv X d kc ks MX12_remembers [.ref p0] w Q :=
  zEv.of (by decide) (Nat.le_of_ble_eq_true rfl) (Or.inr (by simp [Value.category])) h
set_option maxRecDepth 100000 in
set_option maxHeartbeats 4000000 in
theorem bX12_empties_0 {X : zX} {d kc ks : Nat} {w : zW} {Q : Option Value → zW → Prop} (p0 : Nat) (a1 : Int32)
    (h : zRn X d kc ks MX12_empties 2 [some (.ref p0), some (.int a1), some (.int 0)] [] w Q) :
    zRn X d kc ks MX12_empties 0 [some (.ref p0), some (.int a1), none] [] w Q := by
  refine z_iconst 0 dX12_empties_0 rfl ?_
  refine z_istore_n (i := 2) dX12_empties_1 rfl (by decide) rfl ?_
  exact h
set_option maxRecDepth 100000 in
set_option maxHeartbeats 4000000 in
theorem bX12_empties_2 {X : zX} {d kc ks : Nat} {w : zW} {Q : Option Value → zW → Prop} (v0 : Nat) (v1 : Int32) (v2 : Int32)
    (h : if 58 ≤ v2 then (Q none w) else (zIs w v0 11 ∧ zCallV X d MX12_lays [.ref v0, .int v1, .int v2, .int 0] w (fun w1 => zRn X d kc ks MX12_empties 2 [some (.ref v0), some (.int v1), some (.int (v2 + 1))] [] w1 Q))) :
    zRn X d kc ks MX12_empties 2 [some (.ref v0), some (.int v1), some (.int v2)] [] w Q := by
  refine z_iload_n v2 dX12_empties_2 rfl rfl ?_
  refine z_bipush 58 dX12_empties_3 rfl ?_
  refine z_icmp_ge 21 dX12_empties_5 rfl (fun hc => ?_) (fun hc => ?_)
  · rw [if_pos hc] at h
    exact z_vreturn dX12_empties_21 rfl h
  · rw [if_neg hc] at h
    refine z_aload_n v0 dX12_empties_8 rfl rfl ?_
    refine z_iload_n v1 dX12_empties_9 rfl rfl ?_
    refine z_iload_n v2 dX12_empties_10 rfl rfl ?_
    refine z_iconst 0 dX12_empties_11 rfl ?_
    refine zq_VV (N := MX12_lays) (As := [.int v1, .int v2, .int 0]) m_X12_109 dX12_empties_12 rfl rfl (Nat.le_of_ble_eq_true rfl) h (fun w1 h => ?_)
    refine z_iinc (i := 2) v2 (v2 + 1) dX12_empties_15 rfl rfl (by decide) rfl ?_
    refine z_goto 2 dX12_empties_18 rfl ?_
    exact h
theorem eX12_empties {X : zX} {d kc ks : Nat} {w : zW} {Q : Option Value → zW → Prop} (p0 : Nat) (a1 : Int32) (h : zRn X d kc ks MX12_empties 0 [some (.ref p0), some (.int a1), none] [] w Q) : zEv X d kc ks MX12_empties [.ref p0, .int a1] w Q :=
  zEv.of (by decide) (Nat.le_of_ble_eq_true rfl) (Or.inr (by simp [Value.category])) h
set_option maxRecDepth 100000 in
set_option maxHeartbeats 4000000 in
theorem bX12_lays_0 {X : zX} {d kc ks : Nat} {w : zW} {Q : Option Value → zW → Prop} (p0 : Nat) (a1 : Int32) (a2 : Int32) (a3 : Int32)
    (h : ∃ r1, zfR w p0 11 0 = some r1 ∧ (∃ w2, zsI w r1 (((58 : Int32) * a1) + a2) a3 = some w2 ∧ (Q none w2))) :
    zRn X d kc ks MX12_lays 0 [some (.ref p0), some (.int a1), some (.int a2), some (.int a3)] [] w Q := by
  refine z_aload_n p0 dX12_lays_0 rfl rfl ?_
  obtain ⟨r1, e, h⟩ := h
  refine zq_fR f_X12_7 dX12_lays_1 e ?_
  refine z_bipush 58 dX12_lays_4 rfl ?_
  refine z_iload_n a1 dX12_lays_6 rfl rfl ?_
  refine z_imul dX12_lays_7 ?_
  refine z_iload_n a2 dX12_lays_8 rfl rfl ?_
  refine z_iadd dX12_lays_9 ?_
  refine z_iload_n a3 dX12_lays_10 rfl rfl ?_
  obtain ⟨w2, e, h⟩ := h
  refine zq_sI dX12_lays_11 e ?_
  exact z_vreturn dX12_lays_12 rfl h
theorem eX12_lays {X : zX} {d kc ks : Nat} {w : zW} {Q : Option Value → zW → Prop} (p0 : Nat) (a1 : Int32) (a2 : Int32) (a3 : Int32) (h : zRn X d kc ks MX12_lays 0 [some (.ref p0), some (.int a1), some (.int a2), some (.int a3)] [] w Q) : zEv X d kc ks MX12_lays [.ref p0, .int a1, .int a2, .int a3] w Q :=
  zEv.of (by decide) (Nat.le_of_ble_eq_true rfl) (Or.inr (by simp [Value.category])) h
set_option maxRecDepth 100000 in
set_option maxHeartbeats 4000000 in
theorem bX12_keeps_0 {X : zX} {d kc ks : Nat} {w : zW} {Q : Option Value → zW → Prop} (p0 : Nat) (a1 : Int32)
    (h : ∃ x1, zfI w p0 11 3 = some x1 ∧ (if x1 = 10 then (zRn X d kc ks MX12_keeps 11 [some (.ref p0), some (.int a1), some (.int 0)] [] w Q) else (zRn X d kc ks MX12_keeps 50 [some (.ref p0), some (.int a1), none] [] w Q))) :
    zRn X d kc ks MX12_keeps 0 [some (.ref p0), some (.int a1), none] [] w Q := by
  refine z_aload_n p0 dX12_keeps_0 rfl rfl ?_
  obtain ⟨x1, e, h⟩ := h
  refine zq_fI f_X12_103 dX12_keeps_1 e ?_
  refine z_bipush 10 dX12_keeps_4 rfl ?_
  refine z_icmp_ne 50 dX12_keeps_6 rfl (fun hc => ?_) (fun hc => ?_)
  · rw [if_neg hc] at h
    exact h
  · rw [if_pos hc] at h
    refine z_iconst 0 dX12_keeps_9 rfl ?_
    refine z_istore_n (i := 2) dX12_keeps_10 rfl (by decide) rfl ?_
    exact h
set_option maxRecDepth 100000 in
set_option maxHeartbeats 4000000 in
theorem bX12_keeps_11 {X : zX} {d kc ks : Nat} {w : zW} {Q : Option Value → zW → Prop} (v0 : Nat) (v1 : Int32) (v2 : Int32)
    (h : if 1566 ≤ v2 then (∃ x1, zfI w v0 11 3 = some x1 ∧ (∃ w2, zsF w v0 11 3 (.int (x1 - 1)) = some w2 ∧ (zRn X d kc ks MX12_keeps 50 [some (.ref v0), some (.int v1), none] [] w2 Q))) else (∃ r3, zfR w v0 11 2 = some r3 ∧ (∃ r4, zfR w v0 11 2 = some r4 ∧ (∃ x5, zaI w r4 (v2 + 174) = some x5 ∧ (∃ w6, zsI w r3 v2 x5 = some w6 ∧ (zRn X d kc ks MX12_keeps 11 [some (.ref v0), some (.int v1), some (.int (v2 + 1))] [] w6 Q)))))) :
    zRn X d kc ks MX12_keeps 11 [some (.ref v0), some (.int v1), some (.int v2)] [] w Q := by
  refine z_iload_n v2 dX12_keeps_11 rfl rfl ?_
  refine z_sipush 1566 dX12_keeps_12 rfl ?_
  refine z_icmp_ge 40 dX12_keeps_15 rfl (fun hc => ?_) (fun hc => ?_)
  · rw [if_pos hc] at h
    refine z_aload_n v0 dX12_keeps_40 rfl rfl ?_
    refine z_dup dX12_keeps_41 rfl ?_
    obtain ⟨x1, e, h⟩ := h
    refine zq_fI f_X12_103 dX12_keeps_42 e ?_
    refine z_iconst 1 dX12_keeps_45 rfl ?_
    refine z_isub dX12_keeps_46 ?_
    obtain ⟨w2, e, h⟩ := h
    refine zq_sF f_X12_103 dX12_keeps_47 (fun _ => rfl) (fun _ => rfl) e ?_
    exact zRn.weak h (zLe_of [true, true, false] (And.intro rfl (And.intro rfl (And.intro rfl (trivial)))))
  · rw [if_neg hc] at h
    refine z_aload_n v0 dX12_keeps_18 rfl rfl ?_
    obtain ⟨r3, e, h⟩ := h
    refine zq_fR f_X12_16 dX12_keeps_19 e ?_
    refine z_iload_n v2 dX12_keeps_22 rfl rfl ?_
    refine z_aload_n v0 dX12_keeps_23 rfl rfl ?_
    obtain ⟨r4, e, h⟩ := h
    refine zq_fR f_X12_16 dX12_keeps_24 e ?_
    refine z_iload_n v2 dX12_keeps_27 rfl rfl ?_
    refine z_sipush 174 dX12_keeps_28 rfl ?_
    refine z_iadd dX12_keeps_31 ?_
    obtain ⟨x5, e, h⟩ := h
    refine zq_aI dX12_keeps_32 e ?_
    obtain ⟨w6, e, h⟩ := h
    refine zq_sI dX12_keeps_33 e ?_
    refine z_iinc (i := 2) v2 (v2 + 1) dX12_keeps_34 rfl rfl (by decide) rfl ?_
    refine z_goto 11 dX12_keeps_37 rfl ?_
    exact h
set_option maxRecDepth 100000 in
set_option maxHeartbeats 4000000 in
theorem bX12_keeps_50 {X : zX} {d kc ks : Nat} {w : zW} {Q : Option Value → zW → Prop} (v0 : Nat) (v1 : Int32)
    (h : zRn X d kc ks MX12_keeps 52 [some (.ref v0), some (.int v1), some (.int 0)] [] w Q) :
    zRn X d kc ks MX12_keeps 50 [some (.ref v0), some (.int v1), none] [] w Q := by
  refine z_iconst 0 dX12_keeps_50 rfl ?_
  refine z_istore_n (i := 2) dX12_keeps_51 rfl (by decide) rfl ?_
  exact h
set_option maxRecDepth 100000 in
set_option maxHeartbeats 4000000 in
theorem bX12_keeps_52 {X : zX} {d kc ks : Nat} {w : zW} {Q : Option Value → zW → Prop} (v0 : Nat) (v1 : Int32) (v2 : Int32)
    (h : if 174 ≤ v2 then (∃ x1, zfI w v0 11 3 = some x1 ∧ (∃ w2, zsF w v0 11 3 (.int (x1 + 1)) = some w2 ∧ (Q (some (.int v1)) w2))) else (∃ r3, zfR w v0 11 2 = some r3 ∧ (∃ x4, zfI w v0 11 3 = some x4 ∧ (∃ r5, zfR w v0 11 1 = some r5 ∧ (∃ x6, zaI w r5 v2 = some x6 ∧ (∃ w7, zsI w r3 (((174 : Int32) * x4) + v2) x6 = some w7 ∧ (zRn X d kc ks MX12_keeps 52 [some (.ref v0), some (.int v1), some (.int (v2 + 1))] [] w7 Q))))))) :
    zRn X d kc ks MX12_keeps 52 [some (.ref v0), some (.int v1), some (.int v2)] [] w Q := by
  refine z_iload_n v2 dX12_keeps_52 rfl rfl ?_
  refine z_sipush 174 dX12_keeps_53 rfl ?_
  refine z_icmp_ge 86 dX12_keeps_56 rfl (fun hc => ?_) (fun hc => ?_)
  · rw [if_pos hc] at h
    refine z_aload_n v0 dX12_keeps_86 rfl rfl ?_
    refine z_dup dX12_keeps_87 rfl ?_
    obtain ⟨x1, e, h⟩ := h
    refine zq_fI f_X12_103 dX12_keeps_88 e ?_
    refine z_iconst 1 dX12_keeps_91 rfl ?_
    refine z_iadd dX12_keeps_92 ?_
    obtain ⟨w2, e, h⟩ := h
    refine zq_sF f_X12_103 dX12_keeps_93 (fun _ => rfl) (fun _ => rfl) e ?_
    refine z_iload_n v1 dX12_keeps_96 rfl rfl ?_
    exact z_ireturn .int dX12_keeps_97 rfl rfl h
  · rw [if_neg hc] at h
    refine z_aload_n v0 dX12_keeps_59 rfl rfl ?_
    obtain ⟨r3, e, h⟩ := h
    refine zq_fR f_X12_16 dX12_keeps_60 e ?_
    refine z_sipush 174 dX12_keeps_63 rfl ?_
    refine z_aload_n v0 dX12_keeps_66 rfl rfl ?_
    obtain ⟨x4, e, h⟩ := h
    refine zq_fI f_X12_103 dX12_keeps_67 e ?_
    refine z_imul dX12_keeps_70 ?_
    refine z_iload_n v2 dX12_keeps_71 rfl rfl ?_
    refine z_iadd dX12_keeps_72 ?_
    refine z_aload_n v0 dX12_keeps_73 rfl rfl ?_
    obtain ⟨r5, e, h⟩ := h
    refine zq_fR f_X12_13 dX12_keeps_74 e ?_
    refine z_iload_n v2 dX12_keeps_77 rfl rfl ?_
    obtain ⟨x6, e, h⟩ := h
    refine zq_aI dX12_keeps_78 e ?_
    obtain ⟨w7, e, h⟩ := h
    refine zq_sI dX12_keeps_79 e ?_
    refine z_iinc (i := 2) v2 (v2 + 1) dX12_keeps_80 rfl rfl (by decide) rfl ?_
    refine z_goto 52 dX12_keeps_83 rfl ?_
    exact h
theorem eX12_keeps {X : zX} {d kc ks : Nat} {w : zW} {Q : Option Value → zW → Prop} (p0 : Nat) (a1 : Int32) (h : zRn X d kc ks MX12_keeps 0 [some (.ref p0), some (.int a1), none] [] w Q) : zEv X d kc ks MX12_keeps [.ref p0, .int a1] w Q :=
  zEv.of (by decide) (Nat.le_of_ble_eq_true rfl) (Or.inr (by simp [Value.category])) h
set_option maxRecDepth 100000 in
set_option maxHeartbeats 4000000 in
theorem bX12_feed_0 {X : zX} {d kc ks : Nat} {w : zW} {Q : Option Value → zW → Prop} (p0 : Nat) (a1 : Int32) (a2 : Int32) (a3 : Int32) (a4 : Int32) (a5 : Int32)
    (h : ∃ x1, zfI w p0 11 5 = some x1 ∧ (if x1 ≤ 380 then ((5 = nI 5 ∧ 5 ≤ 100000 ∧ w.length < zBig ∧ 1 ≤ kc ∧ 5 ≤ ks) ∧ (∃ w3, zsI (w ++ [zI 5 (fun _ => 0)]) w.length 0 a1 = some w3 ∧ (∃ w4, zsI w3 w.length 1 a2 = some w4 ∧ (∃ w5, zsI w4 w.length 2 a3 = some w5 ∧ (∃ w6, zsI w5 w.length 3 a4 = some w6 ∧ (∃ w7, zsI w6 w.length 4 a5 = some w7 ∧ (zRn X d (kc - 1) (ks - 5) MX12_feed 42 [some (.ref p0), none, none, none, none, none, some (.ref w.length), some (.int 0)] [] w7 Q))))))) else (Q (some (.int (-1))) w))) :
    zRn X d kc ks MX12_feed 0 [some (.ref p0), some (.int a1), some (.int a2), some (.int a3), some (.int a4), some (.int a5), none, none] [] w Q := by
  refine z_aload_n p0 dX12_feed_0 rfl rfl ?_
  obtain ⟨x1, e, h⟩ := h
  refine zq_fI f_X12_120 dX12_feed_1 e ?_
  refine z_sipush 380 dX12_feed_4 rfl ?_
  refine z_icmp_le 12 dX12_feed_7 rfl (fun hc => ?_) (fun hc => ?_)
  · rw [if_pos hc] at h
    refine z_iconst 5 dX12_feed_12 rfl ?_
    refine zq_newa (N := 5) g_149 dX12_feed_13 h.1 ?_
    have h := h.2
    refine z_dup dX12_feed_15 rfl ?_
    refine z_iconst 0 dX12_feed_16 rfl ?_
    refine z_iload_n a1 dX12_feed_17 rfl rfl ?_
    obtain ⟨w3, e, h⟩ := h
    refine zq_sI dX12_feed_18 e ?_
    refine z_dup dX12_feed_19 rfl ?_
    refine z_iconst 1 dX12_feed_20 rfl ?_
    refine z_iload_n a2 dX12_feed_21 rfl rfl ?_
    obtain ⟨w4, e, h⟩ := h
    refine zq_sI dX12_feed_22 e ?_
    refine z_dup dX12_feed_23 rfl ?_
    refine z_iconst 2 dX12_feed_24 rfl ?_
    refine z_iload_n a3 dX12_feed_25 rfl rfl ?_
    obtain ⟨w5, e, h⟩ := h
    refine zq_sI dX12_feed_26 e ?_
    refine z_dup dX12_feed_27 rfl ?_
    refine z_iconst 3 dX12_feed_28 rfl ?_
    refine z_iload a4 dX12_feed_29 rfl ?_
    obtain ⟨w6, e, h⟩ := h
    refine zq_sI dX12_feed_31 e ?_
    refine z_dup dX12_feed_32 rfl ?_
    refine z_iconst 4 dX12_feed_33 rfl ?_
    refine z_iload a5 dX12_feed_34 rfl ?_
    obtain ⟨w7, e, h⟩ := h
    refine zq_sI dX12_feed_36 e ?_
    refine z_astore (i := 6) dX12_feed_37 (by decide) rfl ?_
    refine z_iconst 0 dX12_feed_39 rfl ?_
    refine z_istore (i := 7) dX12_feed_40 (by decide) rfl ?_
    exact zRn.weak h (zLe_of [true, false, false, false, false, false, true, true] (And.intro rfl (And.intro rfl (And.intro rfl (And.intro rfl (And.intro rfl (And.intro rfl (And.intro rfl (And.intro rfl (trivial))))))))))
  · rw [if_neg hc] at h
    refine z_iconst (-1) dX12_feed_10 rfl ?_
    exact z_ireturn .int dX12_feed_11 rfl rfl h
set_option maxRecDepth 100000 in
set_option maxHeartbeats 4000000 in
theorem bX12_feed_42 {X : zX} {d kc ks : Nat} {w : zW} {Q : Option Value → zW → Prop} (v0 : Nat) (v6 : Nat) (v7 : Int32)
    (h : if 20 ≤ v7 then (∃ x1, zfI w v0 11 5 = some x1 ∧ (∃ w2, zsF w v0 11 5 (.int (x1 + 20)) = some w2 ∧ (∃ x3, zfI w2 v0 11 5 = some x3 ∧ (Q (some (.int x3)) w2)))) else (∃ r4, zfR w v0 11 4 = some r4 ∧ (∃ x5, zfI w v0 11 5 = some x5 ∧ (∃ x6, zaI w v6 (v7 / 4) = some x6 ∧ (∃ w7, zsI w r4 (x5 + v7) (((x6.toUInt32 >>> (((24 : Int32) - ((8 : Int32) * (v7 - v7 / 4 * 4)) : Int32).toUInt32 &&& Int32.toUInt32 31)).toInt32) &&& 255) = some w7 ∧ (zRn X d kc ks MX12_feed 42 [some (.ref v0), none, none, none, none, none, some (.ref v6), some (.int (v7 + 1))] [] w7 Q)))))) :
    zRn X d kc ks MX12_feed 42 [some (.ref v0), none, none, none, none, none, some (.ref v6), some (.int v7)] [] w Q := by
  refine z_iload v7 dX12_feed_42 rfl ?_
  refine z_bipush 20 dX12_feed_44 rfl ?_
  refine z_icmp_ge 89 dX12_feed_46 rfl (fun hc => ?_) (fun hc => ?_)
  · rw [if_pos hc] at h
    refine z_aload_n v0 dX12_feed_89 rfl rfl ?_
    refine z_dup dX12_feed_90 rfl ?_
    obtain ⟨x1, e, h⟩ := h
    refine zq_fI f_X12_120 dX12_feed_91 e ?_
    refine z_bipush 20 dX12_feed_94 rfl ?_
    refine z_iadd dX12_feed_96 ?_
    obtain ⟨w2, e, h⟩ := h
    refine zq_sF f_X12_120 dX12_feed_97 (fun _ => rfl) (fun _ => rfl) e ?_
    refine z_aload_n v0 dX12_feed_100 rfl rfl ?_
    obtain ⟨x3, e, h⟩ := h
    refine zq_fI f_X12_120 dX12_feed_101 e ?_
    exact z_ireturn .int dX12_feed_104 rfl rfl h
  · rw [if_neg hc] at h
    refine z_aload_n v0 dX12_feed_49 rfl rfl ?_
    obtain ⟨r4, e, h⟩ := h
    refine zq_fR f_X12_19 dX12_feed_50 e ?_
    refine z_aload_n v0 dX12_feed_53 rfl rfl ?_
    obtain ⟨x5, e, h⟩ := h
    refine zq_fI f_X12_120 dX12_feed_54 e ?_
    refine z_iload v7 dX12_feed_57 rfl ?_
    refine z_iadd dX12_feed_59 ?_
    refine z_aload v6 dX12_feed_60 rfl ?_
    refine z_iload v7 dX12_feed_62 rfl ?_
    refine z_iconst 4 dX12_feed_64 rfl ?_
    refine z_idiv dX12_feed_65 (by decide) ?_
    obtain ⟨x6, e, h⟩ := h
    refine zq_aI dX12_feed_66 e ?_
    refine z_bipush 24 dX12_feed_67 rfl ?_
    refine z_bipush 8 dX12_feed_69 rfl ?_
    refine z_iload v7 dX12_feed_71 rfl ?_
    refine z_iconst 4 dX12_feed_73 rfl ?_
    refine z_irem dX12_feed_74 (by decide) ?_
    refine z_imul dX12_feed_75 ?_
    refine z_isub dX12_feed_76 ?_
    refine z_iushr dX12_feed_77 ?_
    refine z_sipush 255 dX12_feed_78 rfl ?_
    refine z_iand dX12_feed_81 ?_
    obtain ⟨w7, e, h⟩ := h
    refine zq_sI dX12_feed_82 e ?_
    refine z_iinc (i := 7) v7 (v7 + 1) dX12_feed_83 rfl rfl (by decide) rfl ?_
    refine z_goto 42 dX12_feed_86 rfl ?_
    exact h
theorem eX12_feed {X : zX} {d kc ks : Nat} {w : zW} {Q : Option Value → zW → Prop} (p0 : Nat) (a1 : Int32) (a2 : Int32) (a3 : Int32) (a4 : Int32) (a5 : Int32) (h : zRn X d kc ks MX12_feed 0 [some (.ref p0), some (.int a1), some (.int a2), some (.int a3), some (.int a4), some (.int a5), none, none] [] w Q) : zEv X d kc ks MX12_feed [.ref p0, .int a1, .int a2, .int a3, .int a4, .int a5] w Q :=
  zEv.of (by decide) (Nat.le_of_ble_eq_true rfl) (Or.inr (by simp [Value.category])) h
set_option maxRecDepth 100000 in
set_option maxHeartbeats 4000000 in
theorem bX12_end_0 {X : zX} {d kc ks : Nat} {w : zW} {Q : Option Value → zW → Prop} (p0 : Nat) (a1 : Int32)
    (h : ∃ x1, zfI w p0 11 5 = some x1 ∧ (zCallI X d MX12_in [.long ((a1 : Int32).toInt64), .long 0, .long ((x1 : Int32).toInt64)] w (fun x3 w2 => if x3 = 0 then (Q (some (.int (-1))) w2) else (∃ w4, zsF w2 p0 11 5 (.int a1) = some w4 ∧ (Q (some (.int a1)) w4))))) :
    zRn X d kc ks MX12_end 0 [some (.ref p0), some (.int a1)] [] w Q := by
  refine z_iload_n a1 dX12_end_0 rfl rfl ?_
  refine z_i2l dX12_end_1 ?_
  refine z_lconst 0 dX12_end_2 rfl ?_
  refine z_aload_n p0 dX12_end_3 rfl rfl ?_
  obtain ⟨x1, e, h⟩ := h
  refine zq_fI f_X12_120 dX12_end_4 e ?_
  refine z_i2l dX12_end_7 ?_
  refine zq_SI (N := MX12_in) (As := [.long ((a1 : Int32).toInt64), .long 0, .long ((x1 : Int32).toInt64)]) m_X12_64 dX12_end_8 rfl rfl (Nat.le_of_ble_eq_true rfl) h (fun x3 w2 h => ?_)
  refine z_if_ne 16 dX12_end_11 rfl (fun hc => ?_) (fun hc => ?_)
  · rw [if_neg hc] at h
    refine z_aload_n p0 dX12_end_16 rfl rfl ?_
    refine z_iload_n a1 dX12_end_17 rfl rfl ?_
    obtain ⟨w4, e, h⟩ := h
    refine zq_sF f_X12_120 dX12_end_18 (fun _ => rfl) (fun _ => rfl) e ?_
    refine z_iload_n a1 dX12_end_21 rfl rfl ?_
    exact z_ireturn .int dX12_end_22 rfl rfl h
  · rw [if_pos hc] at h
    refine z_iconst (-1) dX12_end_14 rfl ?_
    exact z_ireturn .int dX12_end_15 rfl rfl h
theorem eX12_end {X : zX} {d kc ks : Nat} {w : zW} {Q : Option Value → zW → Prop} (p0 : Nat) (a1 : Int32) (h : zRn X d kc ks MX12_end 0 [some (.ref p0), some (.int a1)] [] w Q) : zEv X d kc ks MX12_end [.ref p0, .int a1] w Q :=
  zEv.of (by decide) (Nat.le_of_ble_eq_true rfl) (Or.inr (by simp [Value.category])) h
set_option maxRecDepth 100000 in
set_option maxHeartbeats 4000000 in
theorem bX12_told_0 {X : zX} {d kc ks : Nat} {w : zW} {Q : Option Value → zW → Prop} (p0 : Nat) (a1 : Int32)
    (h : zCallI X d MX12_isSlot [.int a1] w (fun x2 w1 => if x2 = 0 then (Q (some (.int (-2))) w1) else (∃ w3, zsF w1 p0 11 6 (.int 0) = some w3 ∧ (∃ w4, zsF w3 p0 11 7 (.int (-1)) = some w4 ∧ (∃ w5, zsF w4 p0 11 12 (.int 0) = some w5 ∧ (∃ w6, zsF w5 p0 11 8 (.int 0) = some w6 ∧ (zIs w6 p0 11 ∧ zCallV X d MX12_remembers [.ref p0] w6 (fun w7 => zIs w7 p0 11 ∧ zCallV X d MX12_next [.ref p0] w7 (fun w8 => zIs w8 p0 11 ∧ zCallV X d MX12_readsOrder [.ref p0, .int a1] w8 (fun w9 => ∃ w10, zsF w9 p0 11 5 (.int 0) = some w10 ∧ (∃ x11, zfI w10 p0 11 12 = some x11 ∧ (if x11 = 0 then (zIs w10 p0 11 ∧ zCallI X d MX12_belowMany [.ref p0, .int a1] w10 (fun x13 w12 => zIs w12 p0 11 ∧ zCallI X d MX12_done [.ref p0, .int x13] w12 (fun x15 w14 => Q (some (.int x15)) w14))) else (zRn X d kc ks MX12_told 57 [some (.ref p0), none, some (.int 0)] [] w10 Q))))))))))))) :
    zRn X d kc ks MX12_told 0 [some (.ref p0), some (.int a1), none] [] w Q := by
  refine z_iload_n a1 dX12_told_0 rfl rfl ?_
  refine zq_SI (N := MX12_isSlot) (As := [.int a1]) m_X12_72 dX12_told_1 rfl rfl (Nat.le_of_ble_eq_true rfl) h (fun x2 w1 h => ?_)
  refine z_if_ne 10 dX12_told_4 rfl (fun hc => ?_) (fun hc => ?_)
  · rw [if_neg hc] at h
    refine z_aload_n p0 dX12_told_10 rfl rfl ?_
    refine z_iconst 0 dX12_told_11 rfl ?_
    obtain ⟨w3, e, h⟩ := h
    refine zq_sF f_X12_147 dX12_told_12 (fun _ => rfl) (fun _ => rfl) e ?_
    refine z_aload_n p0 dX12_told_15 rfl rfl ?_
    refine z_iconst (-1) dX12_told_16 rfl ?_
    obtain ⟨w4, e, h⟩ := h
    refine zq_sF f_X12_22 dX12_told_17 (fun _ => rfl) (fun _ => rfl) e ?_
    refine z_aload_n p0 dX12_told_20 rfl rfl ?_
    refine z_iconst 0 dX12_told_21 rfl ?_
    obtain ⟨w5, e, h⟩ := h
    refine zq_sF f_X12_143 dX12_told_22 (fun _ => rfl) (fun _ => rfl) e ?_
    refine z_aload_n p0 dX12_told_25 rfl rfl ?_
    refine z_iconst 0 dX12_told_26 rfl ?_
    obtain ⟨w6, e, h⟩ := h
    refine zq_sF f_X12_123 dX12_told_27 (fun _ => rfl) (fun _ => rfl) e ?_
    refine z_aload_n p0 dX12_told_30 rfl rfl ?_
    refine zq_VV (N := MX12_remembers) (As := []) m_X12_113 dX12_told_31 rfl rfl (Nat.le_of_ble_eq_true rfl) h (fun w7 h => ?_)
    refine z_aload_n p0 dX12_told_34 rfl rfl ?_
    refine zq_VV (N := MX12_next) (As := []) m_X12_150 dX12_told_35 rfl rfl (Nat.le_of_ble_eq_true rfl) h (fun w8 h => ?_)
    refine z_aload_n p0 dX12_told_38 rfl rfl ?_
    refine z_iload_n a1 dX12_told_39 rfl rfl ?_
    refine zq_VV (N := MX12_readsOrder) (As := [.int a1]) m_X12_196 dX12_told_40 rfl rfl (Nat.le_of_ble_eq_true rfl) h (fun w9 h => ?_)
    refine z_aload_n p0 dX12_told_43 rfl rfl ?_
    refine z_iconst 0 dX12_told_44 rfl ?_
    obtain ⟨w10, e, h⟩ := h
    refine zq_sF f_X12_120 dX12_told_45 (fun _ => rfl) (fun _ => rfl) e ?_
    refine z_aload_n p0 dX12_told_48 rfl rfl ?_
    obtain ⟨x11, e, h⟩ := h
    refine zq_fI f_X12_143 dX12_told_49 e ?_
    refine z_if_eq 85 dX12_told_52 rfl (fun hc => ?_) (fun hc => ?_)
    · rw [if_pos hc] at h
      refine z_aload_n p0 dX12_told_85 rfl rfl ?_
      refine z_aload_n p0 dX12_told_86 rfl rfl ?_
      refine z_iload_n a1 dX12_told_87 rfl rfl ?_
      refine zq_VI (N := MX12_belowMany) (As := [.int a1]) m_X12_199 dX12_told_88 rfl rfl (Nat.le_of_ble_eq_true rfl) h (fun x13 w12 h => ?_)
      refine zq_VI (N := MX12_done) (As := [.int x13]) m_X12_202 dX12_told_91 rfl rfl (Nat.le_of_ble_eq_true rfl) h (fun x15 w14 h => ?_)
      exact z_ireturn .int dX12_told_94 rfl rfl h
    · rw [if_neg hc] at h
      refine z_iconst 0 dX12_told_55 rfl ?_
      refine z_istore_n (i := 2) dX12_told_56 rfl (by decide) rfl ?_
      exact zRn.weak h (zLe_of [true, false, true] (And.intro rfl (And.intro rfl (And.intro rfl (trivial)))))
  · rw [if_pos hc] at h
    refine z_bipush (-2) dX12_told_7 rfl ?_
    exact z_ireturn .int dX12_told_9 rfl rfl h
set_option maxRecDepth 100000 in
set_option maxHeartbeats 4000000 in
theorem bX12_told_57 {X : zX} {d kc ks : Nat} {w : zW} {Q : Option Value → zW → Prop} (v0 : Nat) (v2 : Int32)
    (h : if 174 ≤ v2 then (Q (some (.int (-4))) w) else (∃ r1, zfR w v0 11 0 = some r1 ∧ (∃ r2, zfR w v0 11 1 = some r2 ∧ (∃ x3, zaI w r2 v2 = some x3 ∧ (∃ w4, zsI w r1 v2 x3 = some w4 ∧ (zRn X d kc ks MX12_told 57 [some (.ref v0), none, some (.int (v2 + 1))] [] w4 Q)))))) :
    zRn X d kc ks MX12_told 57 [some (.ref v0), none, some (.int v2)] [] w Q := by
  refine z_iload_n v2 dX12_told_57 rfl rfl ?_
  refine z_sipush 174 dX12_told_58 rfl ?_
  refine z_icmp_ge 82 dX12_told_61 rfl (fun hc => ?_) (fun hc => ?_)
  · rw [if_pos hc] at h
    refine z_bipush (-4) dX12_told_82 rfl ?_
    exact z_ireturn .int dX12_told_84 rfl rfl h
  · rw [if_neg hc] at h
    refine z_aload_n v0 dX12_told_64 rfl rfl ?_
    obtain ⟨r1, e, h⟩ := h
    refine zq_fR f_X12_7 dX12_told_65 e ?_
    refine z_iload_n v2 dX12_told_68 rfl rfl ?_
    refine z_aload_n v0 dX12_told_69 rfl rfl ?_
    obtain ⟨r2, e, h⟩ := h
    refine zq_fR f_X12_13 dX12_told_70 e ?_
    refine z_iload_n v2 dX12_told_73 rfl rfl ?_
    obtain ⟨x3, e, h⟩ := h
    refine zq_aI dX12_told_74 e ?_
    obtain ⟨w4, e, h⟩ := h
    refine zq_sI dX12_told_75 e ?_
    refine z_iinc (i := 2) v2 (v2 + 1) dX12_told_76 rfl rfl (by decide) rfl ?_
    refine z_goto 57 dX12_told_79 rfl ?_
    exact h
theorem eX12_told {X : zX} {d kc ks : Nat} {w : zW} {Q : Option Value → zW → Prop} (p0 : Nat) (a1 : Int32) (h : zRn X d kc ks MX12_told 0 [some (.ref p0), some (.int a1), none] [] w Q) : zEv X d kc ks MX12_told [.ref p0, .int a1] w Q :=
  zEv.of (by decide) (Nat.le_of_ble_eq_true rfl) (Or.inr (by simp [Value.category])) h
set_option maxRecDepth 100000 in
set_option maxHeartbeats 4000000 in
theorem bX12_next_0 {X : zX} {d kc ks : Nat} {w : zW} {Q : Option Value → zW → Prop} (v0 : Nat)
    (h : zIs w v0 11 ∧ zCallI X d MX12_isAt [.ref v0, .int 32, .int 32] w (fun x2 w1 => if x2 = 0 then (zIs w1 v0 11 ∧ zCallI X d MX12_isAt [.ref v0, .int 10, .int 10] w1 (fun x4 w3 => if x4 = 0 then (∃ x5, zfI w3 v0 11 8 = some x5 ∧ (∃ w6, zsF w3 v0 11 9 (.int x5) = some w6 ∧ (∃ w7, zsF w6 v0 11 11 (.int 0) = some w7 ∧ (∃ x8, zfI w7 v0 11 8 = some x8 ∧ (∃ x9, zfI w7 v0 11 5 = some x9 ∧ (if x8 = x9 then (∃ w19, zsF w7 v0 11 10 (.int 0) = some w19 ∧ (Q none w19)) else (zIs w7 v0 11 ∧ zCallI X d MX12_isAt [.ref v0, .int 97, .int 122] w7 (fun x11 w10 => if x11 = 0 then (zIs w10 v0 11 ∧ zCallI X d MX12_isAt [.ref v0, .int 48, .int 57] w10 (fun x13 w12 => if x13 = 0 then (∃ w14, zsF w12 v0 11 10 (.int 3) = some w14 ∧ (∃ x15, zfI w14 v0 11 8 = some x15 ∧ (∃ w16, zsF w14 v0 11 8 (.int (x15 + 1)) = some w16 ∧ (Q none w16)))) else (∃ w17, zsF w12 v0 11 10 (.int 2) = some w17 ∧ (zRn X d kc ks MX12_next 123 [some (.ref v0)] [] w17 Q)))) else (∃ w18, zsF w10 v0 11 10 (.int 1) = some w18 ∧ (zRn X d kc ks MX12_next 83 [some (.ref v0)] [] w18 Q)))))))))) else (zRn X d kc ks MX12_next 22 [some (.ref v0)] [] w3 Q))) else (zRn X d kc ks MX12_next 22 [some (.ref v0)] [] w1 Q))) :
    zRn X d kc ks MX12_next 0 [some (.ref v0)] [] w Q := by
  refine z_aload_n v0 dX12_next_0 rfl rfl ?_
  refine z_bipush 32 dX12_next_1 rfl ?_
  refine z_bipush 32 dX12_next_3 rfl ?_
  refine zq_VI (N := MX12_isAt) (As := [.int 32, .int 32]) m_X12_126 dX12_next_5 rfl rfl (Nat.le_of_ble_eq_true rfl) h (fun x2 w1 h => ?_)
  refine z_if_ne 22 dX12_next_8 rfl (fun hc => ?_) (fun hc => ?_)
  · rw [if_neg hc] at h
    exact h
  · rw [if_pos hc] at h
    refine z_aload_n v0 dX12_next_11 rfl rfl ?_
    refine z_bipush 10 dX12_next_12 rfl ?_
    refine z_bipush 10 dX12_next_14 rfl ?_
    refine zq_VI (N := MX12_isAt) (As := [.int 10, .int 10]) m_X12_126 dX12_next_16 rfl rfl (Nat.le_of_ble_eq_true rfl) h (fun x4 w3 h => ?_)
    refine z_if_eq 35 dX12_next_19 rfl (fun hc => ?_) (fun hc => ?_)
    · rw [if_pos hc] at h
      refine z_aload_n v0 dX12_next_35 rfl rfl ?_
      refine z_aload_n v0 dX12_next_36 rfl rfl ?_
      obtain ⟨x5, e, h⟩ := h
      refine zq_fI f_X12_123 dX12_next_37 e ?_
      obtain ⟨w6, e, h⟩ := h
      refine zq_sF f_X12_129 dX12_next_40 (fun _ => rfl) (fun _ => rfl) e ?_
      refine z_aload_n v0 dX12_next_43 rfl rfl ?_
      refine z_iconst 0 dX12_next_44 rfl ?_
      obtain ⟨w7, e, h⟩ := h
      refine zq_sF f_X12_132 dX12_next_45 (fun _ => rfl) (fun _ => rfl) e ?_
      refine z_aload_n v0 dX12_next_48 rfl rfl ?_
      obtain ⟨x8, e, h⟩ := h
      refine zq_fI f_X12_123 dX12_next_49 e ?_
      refine z_aload_n v0 dX12_next_52 rfl rfl ?_
      obtain ⟨x9, e, h⟩ := h
      refine zq_fI f_X12_120 dX12_next_53 e ?_
      refine z_icmp_ne 67 dX12_next_56 rfl (fun hc => ?_) (fun hc => ?_)
      · rw [if_neg hc] at h
        refine z_aload_n v0 dX12_next_67 rfl rfl ?_
        refine z_bipush 97 dX12_next_68 rfl ?_
        refine z_bipush 122 dX12_next_70 rfl ?_
        refine zq_VI (N := MX12_isAt) (As := [.int 97, .int 122]) m_X12_126 dX12_next_72 rfl rfl (Nat.le_of_ble_eq_true rfl) h (fun x11 w10 h => ?_)
        refine z_if_eq 107 dX12_next_75 rfl (fun hc => ?_) (fun hc => ?_)
        · rw [if_pos hc] at h
          refine z_aload_n v0 dX12_next_107 rfl rfl ?_
          refine z_bipush 48 dX12_next_108 rfl ?_
          refine z_bipush 57 dX12_next_110 rfl ?_
          refine zq_VI (N := MX12_isAt) (As := [.int 48, .int 57]) m_X12_126 dX12_next_112 rfl rfl (Nat.le_of_ble_eq_true rfl) h (fun x13 w12 h => ?_)
          refine z_if_eq 177 dX12_next_115 rfl (fun hc => ?_) (fun hc => ?_)
          · rw [if_pos hc] at h
            refine z_aload_n v0 dX12_next_177 rfl rfl ?_
            refine z_iconst 3 dX12_next_178 rfl ?_
            obtain ⟨w14, e, h⟩ := h
            refine zq_sF f_X12_135 dX12_next_179 (fun _ => rfl) (fun _ => rfl) e ?_
            refine z_aload_n v0 dX12_next_182 rfl rfl ?_
            refine z_dup dX12_next_183 rfl ?_
            obtain ⟨x15, e, h⟩ := h
            refine zq_fI f_X12_123 dX12_next_184 e ?_
            refine z_iconst 1 dX12_next_187 rfl ?_
            refine z_iadd dX12_next_188 ?_
            obtain ⟨w16, e, h⟩ := h
            refine zq_sF f_X12_123 dX12_next_189 (fun _ => rfl) (fun _ => rfl) e ?_
            exact z_vreturn dX12_next_192 rfl h
          · rw [if_neg hc] at h
            refine z_aload_n v0 dX12_next_118 rfl rfl ?_
            refine z_iconst 2 dX12_next_119 rfl ?_
            obtain ⟨w17, e, h⟩ := h
            refine zq_sF f_X12_135 dX12_next_120 (fun _ => rfl) (fun _ => rfl) e ?_
            exact h
        · rw [if_neg hc] at h
          refine z_aload_n v0 dX12_next_78 rfl rfl ?_
          refine z_iconst 1 dX12_next_79 rfl ?_
          obtain ⟨w18, e, h⟩ := h
          refine zq_sF f_X12_135 dX12_next_80 (fun _ => rfl) (fun _ => rfl) e ?_
          exact h
      · rw [if_pos hc] at h
        refine z_aload_n v0 dX12_next_59 rfl rfl ?_
        refine z_iconst 0 dX12_next_60 rfl ?_
        obtain ⟨w19, e, h⟩ := h
        refine zq_sF f_X12_135 dX12_next_61 (fun _ => rfl) (fun _ => rfl) e ?_
        refine z_goto 192 dX12_next_64 rfl ?_
        exact z_vreturn dX12_next_192 rfl h
    · rw [if_neg hc] at h
      exact h
set_option maxRecDepth 100000 in
set_option maxHeartbeats 4000000 in
theorem bX12_next_22 {X : zX} {d kc ks : Nat} {w : zW} {Q : Option Value → zW → Prop} (v0 : Nat)
    (h : ∃ x1, zfI w v0 11 8 = some x1 ∧ (∃ w2, zsF w v0 11 8 (.int (x1 + 1)) = some w2 ∧ (zRn X d kc ks MX12_next 0 [some (.ref v0)] [] w2 Q))) :
    zRn X d kc ks MX12_next 22 [some (.ref v0)] [] w Q := by
  refine z_aload_n v0 dX12_next_22 rfl rfl ?_
  refine z_dup dX12_next_23 rfl ?_
  obtain ⟨x1, e, h⟩ := h
  refine zq_fI f_X12_123 dX12_next_24 e ?_
  refine z_iconst 1 dX12_next_27 rfl ?_
  refine z_iadd dX12_next_28 ?_
  obtain ⟨w2, e, h⟩ := h
  refine zq_sF f_X12_123 dX12_next_29 (fun _ => rfl) (fun _ => rfl) e ?_
  refine z_goto 0 dX12_next_32 rfl ?_
  exact h
set_option maxRecDepth 100000 in
set_option maxHeartbeats 4000000 in
theorem bX12_next_83 {X : zX} {d kc ks : Nat} {w : zW} {Q : Option Value → zW → Prop} (v0 : Nat)
    (h : zIs w v0 11 ∧ zCallI X d MX12_isAt [.ref v0, .int 97, .int 122] w (fun x2 w1 => if x2 = 0 then (Q none w1) else (∃ x3, zfI w1 v0 11 8 = some x3 ∧ (∃ w4, zsF w1 v0 11 8 (.int (x3 + 1)) = some w4 ∧ (zRn X d kc ks MX12_next 83 [some (.ref v0)] [] w4 Q))))) :
    zRn X d kc ks MX12_next 83 [some (.ref v0)] [] w Q := by
  refine z_aload_n v0 dX12_next_83 rfl rfl ?_
  refine z_bipush 97 dX12_next_84 rfl ?_
  refine z_bipush 122 dX12_next_86 rfl ?_
  refine zq_VI (N := MX12_isAt) (As := [.int 97, .int 122]) m_X12_126 dX12_next_88 rfl rfl (Nat.le_of_ble_eq_true rfl) h (fun x2 w1 h => ?_)
  refine z_if_eq 192 dX12_next_91 rfl (fun hc => ?_) (fun hc => ?_)
  · rw [if_pos hc] at h
    exact z_vreturn dX12_next_192 rfl h
  · rw [if_neg hc] at h
    refine z_aload_n v0 dX12_next_94 rfl rfl ?_
    refine z_dup dX12_next_95 rfl ?_
    obtain ⟨x3, e, h⟩ := h
    refine zq_fI f_X12_123 dX12_next_96 e ?_
    refine z_iconst 1 dX12_next_99 rfl ?_
    refine z_iadd dX12_next_100 ?_
    obtain ⟨w4, e, h⟩ := h
    refine zq_sF f_X12_123 dX12_next_101 (fun _ => rfl) (fun _ => rfl) e ?_
    refine z_goto 83 dX12_next_104 rfl ?_
    exact h
set_option maxRecDepth 100000 in
set_option maxHeartbeats 4000000 in
theorem bX12_next_123 {X : zX} {d kc ks : Nat} {w : zW} {Q : Option Value → zW → Prop} (v0 : Nat)
    (h : zIs w v0 11 ∧ zCallI X d MX12_isAt [.ref v0, .int 48, .int 57] w (fun x2 w1 => if x2 = 0 then (Q none w1) else (∃ x3, zfI w1 v0 11 11 = some x3 ∧ (∃ r4, zfR w1 v0 11 4 = some r4 ∧ (∃ x5, zfI w1 v0 11 8 = some x5 ∧ (∃ x6, zaI w1 r4 x5 = some x6 ∧ (0 < d ∧ (∃ w7, zsF w1 v0 11 11 (.int (if ((((10 : Int32) * x3) + x6) - 48) < 1000 then ((((10 : Int32) * x3) + x6) - 48) else 1000)) = some w7 ∧ (∃ x8, zfI w7 v0 11 8 = some x8 ∧ (∃ w9, zsF w7 v0 11 8 (.int (x8 + 1)) = some w9 ∧ (zRn X d kc ks MX12_next 123 [some (.ref v0)] [] w9 Q))))))))))) :
    zRn X d kc ks MX12_next 123 [some (.ref v0)] [] w Q := by
  refine z_aload_n v0 dX12_next_123 rfl rfl ?_
  refine z_bipush 48 dX12_next_124 rfl ?_
  refine z_bipush 57 dX12_next_126 rfl ?_
  refine zq_VI (N := MX12_isAt) (As := [.int 48, .int 57]) m_X12_126 dX12_next_128 rfl rfl (Nat.le_of_ble_eq_true rfl) h (fun x2 w1 h => ?_)
  refine z_if_eq 192 dX12_next_131 rfl (fun hc => ?_) (fun hc => ?_)
  · rw [if_pos hc] at h
    exact z_vreturn dX12_next_192 rfl h
  · rw [if_neg hc] at h
    refine z_aload_n v0 dX12_next_134 rfl rfl ?_
    refine z_sipush 1000 dX12_next_135 rfl ?_
    refine z_bipush 10 dX12_next_138 rfl ?_
    refine z_aload_n v0 dX12_next_140 rfl rfl ?_
    obtain ⟨x3, e, h⟩ := h
    refine zq_fI f_X12_132 dX12_next_141 e ?_
    refine z_imul dX12_next_144 ?_
    refine z_aload_n v0 dX12_next_145 rfl rfl ?_
    obtain ⟨r4, e, h⟩ := h
    refine zq_fR f_X12_19 dX12_next_146 e ?_
    refine z_aload_n v0 dX12_next_149 rfl rfl ?_
    obtain ⟨x5, e, h⟩ := h
    refine zq_fI f_X12_123 dX12_next_150 e ?_
    obtain ⟨x6, e, h⟩ := h
    refine zq_aI dX12_next_153 e ?_
    refine z_iadd dX12_next_154 ?_
    refine z_bipush 48 dX12_next_155 rfl ?_
    refine z_isub dX12_next_157 ?_
    refine z_mmin g_1360 g_453 g_106 g_454 dX12_next_158 (Nat.le_of_ble_eq_true rfl) h.1 ?_
    have h := h.2
    obtain ⟨w7, e, h⟩ := h
    refine zq_sF f_X12_132 dX12_next_161 (fun _ => rfl) (fun _ => rfl) e ?_
    refine z_aload_n v0 dX12_next_164 rfl rfl ?_
    refine z_dup dX12_next_165 rfl ?_
    obtain ⟨x8, e, h⟩ := h
    refine zq_fI f_X12_123 dX12_next_166 e ?_
    refine z_iconst 1 dX12_next_169 rfl ?_
    refine z_iadd dX12_next_170 ?_
    obtain ⟨w9, e, h⟩ := h
    refine zq_sF f_X12_123 dX12_next_171 (fun _ => rfl) (fun _ => rfl) e ?_
    refine z_goto 123 dX12_next_174 rfl ?_
    exact h
theorem eX12_next {X : zX} {d kc ks : Nat} {w : zW} {Q : Option Value → zW → Prop} (p0 : Nat) (h : zRn X d kc ks MX12_next 0 [some (.ref p0)] [] w Q) : zEv X d kc ks MX12_next [.ref p0] w Q :=
  zEv.of (by decide) (Nat.le_of_ble_eq_true rfl) (Or.inr (by simp [Value.category])) h
set_option maxRecDepth 100000 in
set_option maxHeartbeats 4000000 in
theorem bX12_isAt_0 {X : zX} {d kc ks : Nat} {w : zW} {Q : Option Value → zW → Prop} (p0 : Nat) (a1 : Int32) (a2 : Int32)
    (h : ∃ x1, zfI w p0 11 8 = some x1 ∧ (∃ x2, zfI w p0 11 5 = some x2 ∧ (if x2 ≤ x1 then (Q (some (.int 0)) w) else (∃ r3, zfR w p0 11 4 = some r3 ∧ (∃ x4, zfI w p0 11 8 = some x4 ∧ (∃ x5, zaI w r3 x4 = some x5 ∧ (zCallI X d MX12_in [.long ((x5 : Int32).toInt64), .long ((a1 : Int32).toInt64), .long ((a2 : Int32).toInt64)] w (fun x7 w6 => if x7 = 0 then (Q (some (.int 0)) w6) else (Q (some (.int 1)) w6))))))))) :
    zRn X d kc ks MX12_isAt 0 [some (.ref p0), some (.int a1), some (.int a2)] [] w Q := by
  refine z_aload_n p0 dX12_isAt_0 rfl rfl ?_
  obtain ⟨x1, e, h⟩ := h
  refine zq_fI f_X12_123 dX12_isAt_1 e ?_
  refine z_aload_n p0 dX12_isAt_4 rfl rfl ?_
  obtain ⟨x2, e, h⟩ := h
  refine zq_fI f_X12_120 dX12_isAt_5 e ?_
  refine z_icmp_ge 35 dX12_isAt_8 rfl (fun hc => ?_) (fun hc => ?_)
  · rw [if_pos hc] at h
    refine z_iconst 0 dX12_isAt_35 rfl ?_
    exact z_ireturn .boolean dX12_isAt_36 rfl rfl h
  · rw [if_neg hc] at h
    refine z_aload_n p0 dX12_isAt_11 rfl rfl ?_
    obtain ⟨r3, e, h⟩ := h
    refine zq_fR f_X12_19 dX12_isAt_12 e ?_
    refine z_aload_n p0 dX12_isAt_15 rfl rfl ?_
    obtain ⟨x4, e, h⟩ := h
    refine zq_fI f_X12_123 dX12_isAt_16 e ?_
    obtain ⟨x5, e, h⟩ := h
    refine zq_aI dX12_isAt_19 e ?_
    refine z_i2l dX12_isAt_20 ?_
    refine z_iload_n a1 dX12_isAt_21 rfl rfl ?_
    refine z_i2l dX12_isAt_22 ?_
    refine z_iload_n a2 dX12_isAt_23 rfl rfl ?_
    refine z_i2l dX12_isAt_24 ?_
    refine zq_SI (N := MX12_in) (As := [.long ((x5 : Int32).toInt64), .long ((a1 : Int32).toInt64), .long ((a2 : Int32).toInt64)]) m_X12_64 dX12_isAt_25 rfl rfl (Nat.le_of_ble_eq_true rfl) h (fun x7 w6 h => ?_)
    refine z_if_eq 35 dX12_isAt_28 rfl (fun hc => ?_) (fun hc => ?_)
    · rw [if_pos hc] at h
      refine z_iconst 0 dX12_isAt_35 rfl ?_
      exact z_ireturn .boolean dX12_isAt_36 rfl rfl h
    · rw [if_neg hc] at h
      refine z_iconst 1 dX12_isAt_31 rfl ?_
      refine z_goto 36 dX12_isAt_32 rfl ?_
      exact z_ireturn .boolean dX12_isAt_36 rfl rfl h
theorem eX12_isAt {X : zX} {d kc ks : Nat} {w : zW} {Q : Option Value → zW → Prop} (p0 : Nat) (a1 : Int32) (a2 : Int32) (h : zRn X d kc ks MX12_isAt 0 [some (.ref p0), some (.int a1), some (.int a2)] [] w Q) : zEv X d kc ks MX12_isAt [.ref p0, .int a1, .int a2] w Q :=
  zEv.of (by decide) (Nat.le_of_ble_eq_true rfl) (Or.inr (by simp [Value.category])) h
set_option maxRecDepth 100000 in
set_option maxHeartbeats 4000000 in
theorem bX12_readsOrder_0 {X : zX} {d kc ks : Nat} {w : zW} {Q : Option Value → zW → Prop} (p0 : Nat) (a1 : Int32)
    (h : zIs w p0 11 ∧ zCallI X d MX12_isWord [.ref p0, .ref (zTx 0)] w (fun x2 w1 => zIs w1 p0 11 ∧ zCallV X d MX12_must [.ref p0, .int x2] w1 (fun w3 => zIs w3 p0 11 ∧ zCallI X d MX12_here [.ref p0, .int 1, .int 8] w3 (fun x5 w4 => zIs w4 p0 11 ∧ zCallV X d MX12_passes [.ref p0] w4 (fun w6 => zIs w6 p0 11 ∧ zCallV X d MX12_empties [.ref p0, .int a1] w6 (fun w7 => zIs w7 p0 11 ∧ zCallV X d MX12_lays [.ref p0, .int a1, .int 0, .int x5] w7 (fun w8 => zIs w8 p0 11 ∧ zCallI X d MX12_isSign [.ref p0, .int 58] w8 (fun x10 w9 => if x10 = 0 then (zRn X d kc ks MX12_readsOrder 73 [some (.ref p0), some (.int a1), none] [] w9 Q) else (zIs w9 p0 11 ∧ zCallV X d MX12_next [.ref p0] w9 (fun w11 => zIs w11 p0 11 ∧ zCallV X d MX12_readsChain [.ref p0, .int a1] w11 (fun w12 => zRn X d kc ks MX12_readsOrder 52 [some (.ref p0), some (.int a1), none] [] w12 Q))))))))))) :
    zRn X d kc ks MX12_readsOrder 0 [some (.ref p0), some (.int a1), none] [] w Q := by
  refine z_aload_n p0 dX12_readsOrder_0 rfl rfl ?_
  refine z_aload_n p0 dX12_readsOrder_1 rfl rfl ?_
  refine z_ldcS (q := 4) rfl dX12_readsOrder_2 ?_
  refine zq_VI (N := MX12_isWord) (As := [.ref (zTx 0)]) m_X12_184 dX12_readsOrder_4 rfl rfl (Nat.le_of_ble_eq_true rfl) h (fun x2 w1 h => ?_)
  refine zq_VV (N := MX12_must) (As := [.int x2]) m_X12_175 dX12_readsOrder_7 rfl rfl (Nat.le_of_ble_eq_true rfl) h (fun w3 h => ?_)
  refine z_aload_n p0 dX12_readsOrder_10 rfl rfl ?_
  refine z_iconst 1 dX12_readsOrder_11 rfl ?_
  refine z_bipush 8 dX12_readsOrder_12 rfl ?_
  refine zq_VI (N := MX12_here) (As := [.int 1, .int 8]) m_X12_169 dX12_readsOrder_14 rfl rfl (Nat.le_of_ble_eq_true rfl) h (fun x5 w4 h => ?_)
  refine z_istore_n (i := 2) dX12_readsOrder_17 rfl (by decide) rfl ?_
  refine z_aload_n p0 dX12_readsOrder_18 rfl rfl ?_
  refine zq_VV (N := MX12_passes) (As := []) m_X12_166 dX12_readsOrder_19 rfl rfl (Nat.le_of_ble_eq_true rfl) h (fun w6 h => ?_)
  refine z_aload_n p0 dX12_readsOrder_22 rfl rfl ?_
  refine z_iload_n a1 dX12_readsOrder_23 rfl rfl ?_
  refine zq_VV (N := MX12_empties) (As := [.int a1]) m_X12_116 dX12_readsOrder_24 rfl rfl (Nat.le_of_ble_eq_true rfl) h (fun w7 h => ?_)
  refine z_aload_n p0 dX12_readsOrder_27 rfl rfl ?_
  refine z_iload_n a1 dX12_readsOrder_28 rfl rfl ?_
  refine z_iconst 0 dX12_readsOrder_29 rfl ?_
  refine z_iload_n x5 dX12_readsOrder_30 rfl rfl ?_
  refine zq_VV (N := MX12_lays) (As := [.int a1, .int 0, .int x5]) m_X12_109 dX12_readsOrder_31 rfl rfl (Nat.le_of_ble_eq_true rfl) h (fun w8 h => ?_)
  refine z_aload_n p0 dX12_readsOrder_34 rfl rfl ?_
  refine z_bipush 58 dX12_readsOrder_35 rfl ?_
  refine zq_VI (N := MX12_isSign) (As := [.int 58]) m_X12_172 dX12_readsOrder_37 rfl rfl (Nat.le_of_ble_eq_true rfl) h (fun x10 w9 h => ?_)
  refine z_if_eq 73 dX12_readsOrder_40 rfl (fun hc => ?_) (fun hc => ?_)
  · rw [if_pos hc] at h
    exact zRn.weak h (zLe_of [true, true, false] (And.intro rfl (And.intro rfl (And.intro rfl (trivial)))))
  · rw [if_neg hc] at h
    refine z_aload_n p0 dX12_readsOrder_43 rfl rfl ?_
    refine zq_VV (N := MX12_next) (As := []) m_X12_150 dX12_readsOrder_44 rfl rfl (Nat.le_of_ble_eq_true rfl) h (fun w11 h => ?_)
    refine z_aload_n p0 dX12_readsOrder_47 rfl rfl ?_
    refine z_iload_n a1 dX12_readsOrder_48 rfl rfl ?_
    refine zq_VV (N := MX12_readsChain) (As := [.int a1]) m_X12_188 dX12_readsOrder_49 rfl rfl (Nat.le_of_ble_eq_true rfl) h (fun w12 h => ?_)
    exact zRn.weak h (zLe_of [true, true, false] (And.intro rfl (And.intro rfl (And.intro rfl (trivial)))))
set_option maxRecDepth 100000 in
set_option maxHeartbeats 4000000 in
theorem bX12_readsOrder_52 {X : zX} {d kc ks : Nat} {w : zW} {Q : Option Value → zW → Prop} (v0 : Nat) (v1 : Int32)
    (h : zIs w v0 11 ∧ zCallI X d MX12_isSign [.ref v0, .int 44] w (fun x2 w1 => if x2 = 0 then (zRn X d kc ks MX12_readsOrder 73 [some (.ref v0), some (.int v1), none] [] w1 Q) else (zIs w1 v0 11 ∧ zCallV X d MX12_next [.ref v0] w1 (fun w3 => zIs w3 v0 11 ∧ zCallV X d MX12_readsChain [.ref v0, .int v1] w3 (fun w4 => zRn X d kc ks MX12_readsOrder 52 [some (.ref v0), some (.int v1), none] [] w4 Q))))) :
    zRn X d kc ks MX12_readsOrder 52 [some (.ref v0), some (.int v1), none] [] w Q := by
  refine z_aload_n v0 dX12_readsOrder_52 rfl rfl ?_
  refine z_bipush 44 dX12_readsOrder_53 rfl ?_
  refine zq_VI (N := MX12_isSign) (As := [.int 44]) m_X12_172 dX12_readsOrder_55 rfl rfl (Nat.le_of_ble_eq_true rfl) h (fun x2 w1 h => ?_)
  refine z_if_eq 73 dX12_readsOrder_58 rfl (fun hc => ?_) (fun hc => ?_)
  · rw [if_pos hc] at h
    exact h
  · rw [if_neg hc] at h
    refine z_aload_n v0 dX12_readsOrder_61 rfl rfl ?_
    refine zq_VV (N := MX12_next) (As := []) m_X12_150 dX12_readsOrder_62 rfl rfl (Nat.le_of_ble_eq_true rfl) h (fun w3 h => ?_)
    refine z_aload_n v0 dX12_readsOrder_65 rfl rfl ?_
    refine z_iload_n v1 dX12_readsOrder_66 rfl rfl ?_
    refine zq_VV (N := MX12_readsChain) (As := [.int v1]) m_X12_188 dX12_readsOrder_67 rfl rfl (Nat.le_of_ble_eq_true rfl) h (fun w4 h => ?_)
    refine z_goto 52 dX12_readsOrder_70 rfl ?_
    exact h
set_option maxRecDepth 100000 in
set_option maxHeartbeats 4000000 in
theorem bX12_readsOrder_73 {X : zX} {d kc ks : Nat} {w : zW} {Q : Option Value → zW → Prop} (v0 : Nat) (v1 : Int32)
    (h : zIs w v0 11 ∧ zCallI X d MX12_isSign [.ref v0, .int 59] w (fun x2 w1 => zIs w1 v0 11 ∧ zCallV X d MX12_must [.ref v0, .int x2] w1 (fun w3 => zRn X d kc ks MX12_readsOrder 83 [some (.ref v0), some (.int v1), none] [] w3 Q))) :
    zRn X d kc ks MX12_readsOrder 73 [some (.ref v0), some (.int v1), none] [] w Q := by
  refine z_aload_n v0 dX12_readsOrder_73 rfl rfl ?_
  refine z_aload_n v0 dX12_readsOrder_74 rfl rfl ?_
  refine z_bipush 59 dX12_readsOrder_75 rfl ?_
  refine zq_VI (N := MX12_isSign) (As := [.int 59]) m_X12_172 dX12_readsOrder_77 rfl rfl (Nat.le_of_ble_eq_true rfl) h (fun x2 w1 h => ?_)
  refine zq_VV (N := MX12_must) (As := [.int x2]) m_X12_175 dX12_readsOrder_80 rfl rfl (Nat.le_of_ble_eq_true rfl) h (fun w3 h => ?_)
  exact h
set_option maxRecDepth 100000 in
set_option maxHeartbeats 4000000 in
theorem bX12_readsOrder_83 {X : zX} {d kc ks : Nat} {w : zW} {Q : Option Value → zW → Prop} (v0 : Nat) (v1 : Int32)
    (h : ∃ x1, zfI w v0 11 12 = some x1 ∧ (if x1 = 0 then (∃ x2, zfI w v0 11 10 = some x2 ∧ (if x2 = 0 then (Q none w) else (zIs w v0 11 ∧ zCallI X d MX12_isWord [.ref v0, .ref (zTx 1)] w (fun x4 w3 => if x4 = 0 then (zIs w3 v0 11 ∧ zCallV X d MX12_faults [.ref v0, .int 1] w3 (fun w6 => zRn X d kc ks MX12_readsOrder 83 [some (.ref v0), some (.int v1), none] [] w6 Q)) else (zIs w3 v0 11 ∧ zCallV X d MX12_readsRow [.ref v0, .int v1] w3 (fun w5 => zRn X d kc ks MX12_readsOrder 83 [some (.ref v0), some (.int v1), none] [] w5 Q)))))) else (Q none w))) :
    zRn X d kc ks MX12_readsOrder 83 [some (.ref v0), some (.int v1), none] [] w Q := by
  refine z_aload_n v0 dX12_readsOrder_83 rfl rfl ?_
  obtain ⟨x1, e, h⟩ := h
  refine zq_fI f_X12_143 dX12_readsOrder_84 e ?_
  refine z_if_ne 122 dX12_readsOrder_87 rfl (fun hc => ?_) (fun hc => ?_)
  · rw [if_neg hc] at h
    exact z_vreturn dX12_readsOrder_122 rfl h
  · rw [if_pos hc] at h
    refine z_aload_n v0 dX12_readsOrder_90 rfl rfl ?_
    obtain ⟨x2, e, h⟩ := h
    refine zq_fI f_X12_135 dX12_readsOrder_91 e ?_
    refine z_if_eq 122 dX12_readsOrder_94 rfl (fun hc => ?_) (fun hc => ?_)
    · rw [if_pos hc] at h
      exact z_vreturn dX12_readsOrder_122 rfl h
    · rw [if_neg hc] at h
      refine z_aload_n v0 dX12_readsOrder_97 rfl rfl ?_
      refine z_ldcS (q := 5) rfl dX12_readsOrder_98 ?_
      refine zq_VI (N := MX12_isWord) (As := [.ref (zTx 1)]) m_X12_184 dX12_readsOrder_100 rfl rfl (Nat.le_of_ble_eq_true rfl) h (fun x4 w3 h => ?_)
      refine z_if_ne 114 dX12_readsOrder_103 rfl (fun hc => ?_) (fun hc => ?_)
      · rw [if_neg hc] at h
        refine z_aload_n v0 dX12_readsOrder_114 rfl rfl ?_
        refine z_iload_n v1 dX12_readsOrder_115 rfl rfl ?_
        refine zq_VV (N := MX12_readsRow) (As := [.int v1]) m_X12_193 dX12_readsOrder_116 rfl rfl (Nat.le_of_ble_eq_true rfl) h (fun w5 h => ?_)
        refine z_goto 83 dX12_readsOrder_119 rfl ?_
        exact h
      · rw [if_pos hc] at h
        refine z_aload_n v0 dX12_readsOrder_106 rfl rfl ?_
        refine z_iconst 1 dX12_readsOrder_107 rfl ?_
        refine zq_VV (N := MX12_faults) (As := [.int 1]) m_X12_163 dX12_readsOrder_108 rfl rfl (Nat.le_of_ble_eq_true rfl) h (fun w6 h => ?_)
        refine z_goto 83 dX12_readsOrder_111 rfl ?_
        exact h
theorem eX12_readsOrder {X : zX} {d kc ks : Nat} {w : zW} {Q : Option Value → zW → Prop} (p0 : Nat) (a1 : Int32) (h : zRn X d kc ks MX12_readsOrder 0 [some (.ref p0), some (.int a1), none] [] w Q) : zEv X d kc ks MX12_readsOrder [.ref p0, .int a1] w Q :=
  zEv.of (by decide) (Nat.le_of_ble_eq_true rfl) (Or.inr (by simp [Value.category])) h
set_option maxRecDepth 100000 in
set_option maxHeartbeats 4000000 in
theorem bX12_isWord_0 {X : zX} {d kc ks : Nat} {w : zW} {Q : Option Value → zW → Prop} (p0 : Nat) (p1 : Nat)
    (h : ∃ x1, zfI w p0 11 12 = some x1 ∧ (if x1 = 0 then (∃ x2, zfI w p0 11 10 = some x2 ∧ (if x2 = 1 then (∃ x3, zfI w p0 11 8 = some x3 ∧ (∃ x4, zfI w p0 11 9 = some x4 ∧ (5 < d ∧ ∃ x5, zTL p1 = some x5 ∧ (if (x3 - x4) = x5 then (zRn X d kc ks MX12_isWord 36 [some (.ref p0), some (.ref p1), none, none] [.int 1] w Q) else (zRn X d kc ks MX12_isWord 35 [some (.ref p0), some (.ref p1), none, none] [] w Q))))) else (zRn X d kc ks MX12_isWord 35 [some (.ref p0), some (.ref p1), none, none] [] w Q))) else (zRn X d kc ks MX12_isWord 35 [some (.ref p0), some (.ref p1), none, none] [] w Q))) :
    zRn X d kc ks MX12_isWord 0 [some (.ref p0), some (.ref p1), none, none] [] w Q := by
  refine z_aload_n p0 dX12_isWord_0 rfl rfl ?_
  obtain ⟨x1, e, h⟩ := h
  refine zq_fI f_X12_143 dX12_isWord_1 e ?_
  refine z_if_ne 35 dX12_isWord_4 rfl (fun hc => ?_) (fun hc => ?_)
  · rw [if_neg hc] at h
    exact h
  · rw [if_pos hc] at h
    refine z_aload_n p0 dX12_isWord_7 rfl rfl ?_
    obtain ⟨x2, e, h⟩ := h
    refine zq_fI f_X12_135 dX12_isWord_8 e ?_
    refine z_iconst 1 dX12_isWord_11 rfl ?_
    refine z_icmp_ne 35 dX12_isWord_12 rfl (fun hc => ?_) (fun hc => ?_)
    · rw [if_neg hc] at h
      exact h
    · rw [if_pos hc] at h
      refine z_aload_n p0 dX12_isWord_15 rfl rfl ?_
      obtain ⟨x3, e, h⟩ := h
      refine zq_fI f_X12_123 dX12_isWord_16 e ?_
      refine z_aload_n p0 dX12_isWord_19 rfl rfl ?_
      obtain ⟨x4, e, h⟩ := h
      refine zq_fI f_X12_129 dX12_isWord_20 e ?_
      refine z_isub dX12_isWord_23 ?_
      refine z_aload_n p1 dX12_isWord_24 rfl rfl ?_
      obtain ⟨hd0, x5, e, h⟩ := h
      refine zq_len mt_X12_153 dX12_isWord_25 (Nat.le_of_ble_eq_true rfl) hd0 e ?_
      refine z_icmp_ne 35 dX12_isWord_28 rfl (fun hc => ?_) (fun hc => ?_)
      · rw [if_neg hc] at h
        exact h
      · rw [if_pos hc] at h
        refine z_iconst 1 dX12_isWord_31 rfl ?_
        refine z_goto 36 dX12_isWord_32 rfl ?_
        exact h
set_option maxRecDepth 100000 in
set_option maxHeartbeats 4000000 in
theorem bX12_isWord_35 {X : zX} {d kc ks : Nat} {w : zW} {Q : Option Value → zW → Prop} (v0 : Nat) (v1 : Nat)
    (h : zRn X d kc ks MX12_isWord 36 [some (.ref v0), some (.ref v1), none, none] [.int 0] w Q) :
    zRn X d kc ks MX12_isWord 35 [some (.ref v0), some (.ref v1), none, none] [] w Q := by
  refine z_iconst 0 dX12_isWord_35 rfl ?_
  exact h
set_option maxRecDepth 100000 in
set_option maxHeartbeats 4000000 in
theorem bX12_isWord_36 {X : zX} {d kc ks : Nat} {w : zW} {Q : Option Value → zW → Prop} (v0 : Nat) (v1 : Nat) (u0 : Int32)
    (h : zRn X d kc ks MX12_isWord 39 [some (.ref v0), some (.ref v1), some (.int u0), some (.int 0)] [] w Q) :
    zRn X d kc ks MX12_isWord 36 [some (.ref v0), some (.ref v1), none, none] [.int u0] w Q := by
  refine z_istore_n (i := 2) dX12_isWord_36 rfl (by decide) rfl ?_
  refine z_iconst 0 dX12_isWord_37 rfl ?_
  refine z_istore_n (i := 3) dX12_isWord_38 rfl (by decide) rfl ?_
  exact h
set_option maxRecDepth 100000 in
set_option maxHeartbeats 4000000 in
theorem bX12_isWord_39 {X : zX} {d kc ks : Nat} {w : zW} {Q : Option Value → zW → Prop} (v0 : Nat) (v1 : Nat) (v2 : Int32) (v3 : Int32)
    (h : 5 < d ∧ ∃ x1, zTL v1 = some x1 ∧ (if x1 ≤ v3 then (zBool v2 ∧ Q (some (.int v2)) w) else (if v2 = 0 then (zBool v2 ∧ Q (some (.int v2)) w) else (∃ r3, zfR w v0 11 4 = some r3 ∧ (∃ x4, zfI w v0 11 9 = some x4 ∧ (∃ x5, zaI w r3 (x4 + v3) = some x5 ∧ (5 < d ∧ ∃ x6, zTC v1 v3 = some x6 ∧ (if x5 = x6 then (zRn X d kc ks MX12_isWord 75 [some (.ref v0), some (.ref v1), none, some (.int v3)] [.int 1] w Q) else (zRn X d kc ks MX12_isWord 75 [some (.ref v0), some (.ref v1), none, some (.int v3)] [.int 0] w Q))))))))) :
    zRn X d kc ks MX12_isWord 39 [some (.ref v0), some (.ref v1), some (.int v2), some (.int v3)] [] w Q := by
  refine z_iload_n v3 dX12_isWord_39 rfl rfl ?_
  refine z_aload_n v1 dX12_isWord_40 rfl rfl ?_
  obtain ⟨hd0, x1, e, h⟩ := h
  refine zq_len mt_X12_153 dX12_isWord_41 (Nat.le_of_ble_eq_true rfl) hd0 e ?_
  refine z_icmp_ge 82 dX12_isWord_44 rfl (fun hc => ?_) (fun hc => ?_)
  · rw [if_pos hc] at h
    refine z_iload_n v2 dX12_isWord_82 rfl rfl ?_
    exact z_ireturn .boolean dX12_isWord_83 rfl (zBool_n h.1) h.2
  · rw [if_neg hc] at h
    refine z_iload_n v2 dX12_isWord_47 rfl rfl ?_
    refine z_if_eq 82 dX12_isWord_48 rfl (fun hc => ?_) (fun hc => ?_)
    · rw [if_pos hc] at h
      refine z_iload_n v2 dX12_isWord_82 rfl rfl ?_
      exact z_ireturn .boolean dX12_isWord_83 rfl (zBool_n h.1) h.2
    · rw [if_neg hc] at h
      refine z_aload_n v0 dX12_isWord_51 rfl rfl ?_
      obtain ⟨r3, e, h⟩ := h
      refine zq_fR f_X12_19 dX12_isWord_52 e ?_
      refine z_aload_n v0 dX12_isWord_55 rfl rfl ?_
      obtain ⟨x4, e, h⟩ := h
      refine zq_fI f_X12_129 dX12_isWord_56 e ?_
      refine z_iload_n v3 dX12_isWord_59 rfl rfl ?_
      refine z_iadd dX12_isWord_60 ?_
      obtain ⟨x5, e, h⟩ := h
      refine zq_aI dX12_isWord_61 e ?_
      refine z_aload_n v1 dX12_isWord_62 rfl rfl ?_
      refine z_iload_n v3 dX12_isWord_63 rfl rfl ?_
      obtain ⟨hd0, x6, e, h⟩ := h
      refine zq_chr mt_X12_159 dX12_isWord_64 (Nat.le_of_ble_eq_true rfl) hd0 e ?_
      refine z_icmp_ne 74 dX12_isWord_67 rfl (fun hc => ?_) (fun hc => ?_)
      · rw [if_neg hc] at h
        refine z_iconst 0 dX12_isWord_74 rfl ?_
        exact zRn.weak h (zLe_of [true, true, false, true] (And.intro rfl (And.intro rfl (And.intro rfl (And.intro rfl (trivial))))))
      · rw [if_pos hc] at h
        refine z_iconst 1 dX12_isWord_70 rfl ?_
        refine z_goto 75 dX12_isWord_71 rfl ?_
        exact zRn.weak h (zLe_of [true, true, false, true] (And.intro rfl (And.intro rfl (And.intro rfl (And.intro rfl (trivial))))))
set_option maxRecDepth 100000 in
set_option maxHeartbeats 4000000 in
theorem bX12_isWord_75 {X : zX} {d kc ks : Nat} {w : zW} {Q : Option Value → zW → Prop} (v0 : Nat) (v1 : Nat) (v3 : Int32) (u0 : Int32)
    (h : zRn X d kc ks MX12_isWord 39 [some (.ref v0), some (.ref v1), some (.int u0), some (.int (v3 + 1))] [] w Q) :
    zRn X d kc ks MX12_isWord 75 [some (.ref v0), some (.ref v1), none, some (.int v3)] [.int u0] w Q := by
  refine z_istore_n (i := 2) dX12_isWord_75 rfl (by decide) rfl ?_
  refine z_iinc (i := 3) v3 (v3 + 1) dX12_isWord_76 rfl rfl (by decide) rfl ?_
  refine z_goto 39 dX12_isWord_79 rfl ?_
  exact h
theorem eX12_isWord {X : zX} {d kc ks : Nat} {w : zW} {Q : Option Value → zW → Prop} (p0 : Nat) (p1 : Nat) (h : zRn X d kc ks MX12_isWord 0 [some (.ref p0), some (.ref p1), none, none] [] w Q) : zEv X d kc ks MX12_isWord [.ref p0, .ref p1] w Q :=
  zEv.of (by decide) (Nat.le_of_ble_eq_true rfl) (Or.inr (by simp [Value.category])) h
set_option maxRecDepth 100000 in
set_option maxHeartbeats 4000000 in
theorem bX12_must_0 {X : zX} {d kc ks : Nat} {w : zW} {Q : Option Value → zW → Prop} (p0 : Nat) (a1 : Int32)
    (h : if a1 = 0 then (zIs w p0 11 ∧ zCallV X d MX12_faults [.ref p0, .int 1] w (fun w1 => zRn X d kc ks MX12_must 9 [some (.ref p0), none] [] w1 Q)) else (zRn X d kc ks MX12_must 9 [some (.ref p0), none] [] w Q)) :
    zRn X d kc ks MX12_must 0 [some (.ref p0), some (.int a1)] [] w Q := by
  refine z_iload_n a1 dX12_must_0 rfl rfl ?_
  refine z_if_ne 9 dX12_must_1 rfl (fun hc => ?_) (fun hc => ?_)
  · rw [if_neg hc] at h
    exact zRn.weak h (zLe_of [true, false] (And.intro rfl (And.intro rfl (trivial))))
  · rw [if_pos hc] at h
    refine z_aload_n p0 dX12_must_4 rfl rfl ?_
    refine z_iconst 1 dX12_must_5 rfl ?_
    refine zq_VV (N := MX12_faults) (As := [.int 1]) m_X12_163 dX12_must_6 rfl rfl (Nat.le_of_ble_eq_true rfl) h (fun w1 h => ?_)
    exact zRn.weak h (zLe_of [true, false] (And.intro rfl (And.intro rfl (trivial))))
set_option maxRecDepth 100000 in
set_option maxHeartbeats 4000000 in
theorem bX12_must_9 {X : zX} {d kc ks : Nat} {w : zW} {Q : Option Value → zW → Prop} (v0 : Nat)
    (h : zIs w v0 11 ∧ zCallV X d MX12_passes [.ref v0] w (fun w1 => Q none w1)) :
    zRn X d kc ks MX12_must 9 [some (.ref v0), none] [] w Q := by
  refine z_aload_n v0 dX12_must_9 rfl rfl ?_
  refine zq_VV (N := MX12_passes) (As := []) m_X12_166 dX12_must_10 rfl rfl (Nat.le_of_ble_eq_true rfl) h (fun w1 h => ?_)
  exact z_vreturn dX12_must_13 rfl h
theorem eX12_must {X : zX} {d kc ks : Nat} {w : zW} {Q : Option Value → zW → Prop} (p0 : Nat) (a1 : Int32) (h : zRn X d kc ks MX12_must 0 [some (.ref p0), some (.int a1)] [] w Q) : zEv X d kc ks MX12_must [.ref p0, .int a1] w Q :=
  zEv.of (by decide) (Nat.le_of_ble_eq_true rfl) (Or.inr (by simp [Value.category])) h
set_option maxRecDepth 100000 in
set_option maxHeartbeats 4000000 in
theorem bX12_faults_0 {X : zX} {d kc ks : Nat} {w : zW} {Q : Option Value → zW → Prop} (p0 : Nat) (a1 : Int32)
    (h : ∃ x1, zfI w p0 11 12 = some x1 ∧ (if x1 = 0 then (∃ w2, zsF w p0 11 12 (.int 1) = some w2 ∧ (∃ w3, zsF w2 p0 11 6 (.int a1) = some w3 ∧ (∃ x4, zfI w3 p0 11 9 = some x4 ∧ (∃ w5, zsF w3 p0 11 7 (.int x4) = some w5 ∧ (Q none w5))))) else (Q none w))) :
    zRn X d kc ks MX12_faults 0 [some (.ref p0), some (.int a1)] [] w Q := by
  refine z_aload_n p0 dX12_faults_0 rfl rfl ?_
  obtain ⟨x1, e, h⟩ := h
  refine zq_fI f_X12_143 dX12_faults_1 e ?_
  refine z_if_ne 25 dX12_faults_4 rfl (fun hc => ?_) (fun hc => ?_)
  · rw [if_neg hc] at h
    exact z_vreturn dX12_faults_25 rfl h
  · rw [if_pos hc] at h
    refine z_aload_n p0 dX12_faults_7 rfl rfl ?_
    refine z_iconst 1 dX12_faults_8 rfl ?_
    obtain ⟨w2, e, h⟩ := h
    refine zq_sF f_X12_143 dX12_faults_9 (fun _ => rfl) (fun _ => rfl) e ?_
    refine z_aload_n p0 dX12_faults_12 rfl rfl ?_
    refine z_iload_n a1 dX12_faults_13 rfl rfl ?_
    obtain ⟨w3, e, h⟩ := h
    refine zq_sF f_X12_147 dX12_faults_14 (fun _ => rfl) (fun _ => rfl) e ?_
    refine z_aload_n p0 dX12_faults_17 rfl rfl ?_
    refine z_aload_n p0 dX12_faults_18 rfl rfl ?_
    obtain ⟨x4, e, h⟩ := h
    refine zq_fI f_X12_129 dX12_faults_19 e ?_
    obtain ⟨w5, e, h⟩ := h
    refine zq_sF f_X12_22 dX12_faults_22 (fun _ => rfl) (fun _ => rfl) e ?_
    exact z_vreturn dX12_faults_25 rfl h
theorem eX12_faults {X : zX} {d kc ks : Nat} {w : zW} {Q : Option Value → zW → Prop} (p0 : Nat) (a1 : Int32) (h : zRn X d kc ks MX12_faults 0 [some (.ref p0), some (.int a1)] [] w Q) : zEv X d kc ks MX12_faults [.ref p0, .int a1] w Q :=
  zEv.of (by decide) (Nat.le_of_ble_eq_true rfl) (Or.inr (by simp [Value.category])) h
set_option maxRecDepth 100000 in
set_option maxHeartbeats 4000000 in
theorem bX12_passes_0 {X : zX} {d kc ks : Nat} {w : zW} {Q : Option Value → zW → Prop} (p0 : Nat)
    (h : ∃ x1, zfI w p0 11 12 = some x1 ∧ (if x1 = 0 then (zIs w p0 11 ∧ zCallV X d MX12_next [.ref p0] w (fun w2 => Q none w2)) else (Q none w))) :
    zRn X d kc ks MX12_passes 0 [some (.ref p0)] [] w Q := by
  refine z_aload_n p0 dX12_passes_0 rfl rfl ?_
  obtain ⟨x1, e, h⟩ := h
  refine zq_fI f_X12_143 dX12_passes_1 e ?_
  refine z_if_ne 11 dX12_passes_4 rfl (fun hc => ?_) (fun hc => ?_)
  · rw [if_neg hc] at h
    exact z_vreturn dX12_passes_11 rfl h
  · rw [if_pos hc] at h
    refine z_aload_n p0 dX12_passes_7 rfl rfl ?_
    refine zq_VV (N := MX12_next) (As := []) m_X12_150 dX12_passes_8 rfl rfl (Nat.le_of_ble_eq_true rfl) h (fun w2 h => ?_)
    exact z_vreturn dX12_passes_11 rfl h
theorem eX12_passes {X : zX} {d kc ks : Nat} {w : zW} {Q : Option Value → zW → Prop} (p0 : Nat) (h : zRn X d kc ks MX12_passes 0 [some (.ref p0)] [] w Q) : zEv X d kc ks MX12_passes [.ref p0] w Q :=
  zEv.of (by decide) (Nat.le_of_ble_eq_true rfl) (Or.inr (by simp [Value.category])) h
set_option maxRecDepth 100000 in
set_option maxHeartbeats 4000000 in
theorem bX12_here_0 {X : zX} {d kc ks : Nat} {w : zW} {Q : Option Value → zW → Prop} (p0 : Nat) (a1 : Int32) (a2 : Int32)
    (h : ∃ x1, zfI w p0 11 12 = some x1 ∧ (if x1 = 0 then (∃ x2, zfI w p0 11 10 = some x2 ∧ (if x2 = 2 then (∃ x3, zfI w p0 11 11 = some x3 ∧ (zCallI X d MX12_in [.long ((x3 : Int32).toInt64), .long ((a1 : Int32).toInt64), .long ((a2 : Int32).toInt64)] w (fun x5 w4 => if x5 = 0 then (zIs w4 p0 11 ∧ zCallV X d MX12_faults [.ref p0, .int 2] w4 (fun w6 => zRn X d kc ks MX12_here 45 [some (.ref p0), some (.int a1), none] [] w6 Q)) else (zRn X d kc ks MX12_here 45 [some (.ref p0), some (.int a1), none] [] w4 Q)))) else (zIs w p0 11 ∧ zCallV X d MX12_faults [.ref p0, .int 1] w (fun w7 => zRn X d kc ks MX12_here 45 [some (.ref p0), some (.int a1), none] [] w7 Q)))) else (Q (some (.int a1)) w))) :
    zRn X d kc ks MX12_here 0 [some (.ref p0), some (.int a1), some (.int a2)] [] w Q := by
  refine z_aload_n p0 dX12_here_0 rfl rfl ?_
  obtain ⟨x1, e, h⟩ := h
  refine zq_fI f_X12_143 dX12_here_1 e ?_
  refine z_if_eq 9 dX12_here_4 rfl (fun hc => ?_) (fun hc => ?_)
  · rw [if_pos hc] at h
    refine z_aload_n p0 dX12_here_9 rfl rfl ?_
    obtain ⟨x2, e, h⟩ := h
    refine zq_fI f_X12_135 dX12_here_10 e ?_
    refine z_iconst 2 dX12_here_13 rfl ?_
    refine z_icmp_eq 25 dX12_here_14 rfl (fun hc => ?_) (fun hc => ?_)
    · rw [if_pos hc] at h
      refine z_aload_n p0 dX12_here_25 rfl rfl ?_
      obtain ⟨x3, e, h⟩ := h
      refine zq_fI f_X12_132 dX12_here_26 e ?_
      refine z_i2l dX12_here_29 ?_
      refine z_iload_n a1 dX12_here_30 rfl rfl ?_
      refine z_i2l dX12_here_31 ?_
      refine z_iload_n a2 dX12_here_32 rfl rfl ?_
      refine z_i2l dX12_here_33 ?_
      refine zq_SI (N := MX12_in) (As := [.long ((x3 : Int32).toInt64), .long ((a1 : Int32).toInt64), .long ((a2 : Int32).toInt64)]) m_X12_64 dX12_here_34 rfl rfl (Nat.le_of_ble_eq_true rfl) h (fun x5 w4 h => ?_)
      refine z_if_ne 45 dX12_here_37 rfl (fun hc => ?_) (fun hc => ?_)
      · rw [if_neg hc] at h
        exact zRn.weak h (zLe_of [true, true, false] (And.intro rfl (And.intro rfl (And.intro rfl (trivial)))))
      · rw [if_pos hc] at h
        refine z_aload_n p0 dX12_here_40 rfl rfl ?_
        refine z_iconst 2 dX12_here_41 rfl ?_
        refine zq_VV (N := MX12_faults) (As := [.int 2]) m_X12_163 dX12_here_42 rfl rfl (Nat.le_of_ble_eq_true rfl) h (fun w6 h => ?_)
        exact zRn.weak h (zLe_of [true, true, false] (And.intro rfl (And.intro rfl (And.intro rfl (trivial)))))
    · rw [if_neg hc] at h
      refine z_aload_n p0 dX12_here_17 rfl rfl ?_
      refine z_iconst 1 dX12_here_18 rfl ?_
      refine zq_VV (N := MX12_faults) (As := [.int 1]) m_X12_163 dX12_here_19 rfl rfl (Nat.le_of_ble_eq_true rfl) h (fun w7 h => ?_)
      refine z_goto 45 dX12_here_22 rfl ?_
      exact zRn.weak h (zLe_of [true, true, false] (And.intro rfl (And.intro rfl (And.intro rfl (trivial)))))
  · rw [if_neg hc] at h
    refine z_iload_n a1 dX12_here_7 rfl rfl ?_
    exact z_ireturn .int dX12_here_8 rfl rfl h
set_option maxRecDepth 100000 in
set_option maxHeartbeats 4000000 in
theorem bX12_here_45 {X : zX} {d kc ks : Nat} {w : zW} {Q : Option Value → zW → Prop} (v0 : Nat) (v1 : Int32)
    (h : ∃ x1, zfI w v0 11 12 = some x1 ∧ (if x1 = 0 then (∃ x2, zfI w v0 11 11 = some x2 ∧ (Q (some (.int x2)) w)) else (Q (some (.int v1)) w))) :
    zRn X d kc ks MX12_here 45 [some (.ref v0), some (.int v1), none] [] w Q := by
  refine z_aload_n v0 dX12_here_45 rfl rfl ?_
  obtain ⟨x1, e, h⟩ := h
  refine zq_fI f_X12_143 dX12_here_46 e ?_
  refine z_if_eq 56 dX12_here_49 rfl (fun hc => ?_) (fun hc => ?_)
  · rw [if_pos hc] at h
    refine z_aload_n v0 dX12_here_56 rfl rfl ?_
    obtain ⟨x2, e, h⟩ := h
    refine zq_fI f_X12_132 dX12_here_57 e ?_
    exact z_ireturn .int dX12_here_60 rfl rfl h
  · rw [if_neg hc] at h
    refine z_iload_n v1 dX12_here_52 rfl rfl ?_
    refine z_goto 60 dX12_here_53 rfl ?_
    exact z_ireturn .int dX12_here_60 rfl rfl h
theorem eX12_here {X : zX} {d kc ks : Nat} {w : zW} {Q : Option Value → zW → Prop} (p0 : Nat) (a1 : Int32) (a2 : Int32) (h : zRn X d kc ks MX12_here 0 [some (.ref p0), some (.int a1), some (.int a2)] [] w Q) : zEv X d kc ks MX12_here [.ref p0, .int a1, .int a2] w Q :=
  zEv.of (by decide) (Nat.le_of_ble_eq_true rfl) (Or.inr (by simp [Value.category])) h
set_option maxRecDepth 100000 in
set_option maxHeartbeats 4000000 in
theorem bX12_isSign_0 {X : zX} {d kc ks : Nat} {w : zW} {Q : Option Value → zW → Prop} (p0 : Nat) (a1 : Int32)
    (h : ∃ x1, zfI w p0 11 12 = some x1 ∧ (if x1 = 0 then (∃ x2, zfI w p0 11 10 = some x2 ∧ (if x2 = 3 then (∃ r3, zfR w p0 11 4 = some r3 ∧ (∃ x4, zfI w p0 11 9 = some x4 ∧ (∃ x5, zaI w r3 x4 = some x5 ∧ (if x5 = a1 then (Q (some (.int 1)) w) else (Q (some (.int 0)) w))))) else (Q (some (.int 0)) w))) else (Q (some (.int 0)) w))) :
    zRn X d kc ks MX12_isSign 0 [some (.ref p0), some (.int a1)] [] w Q := by
  refine z_aload_n p0 dX12_isSign_0 rfl rfl ?_
  obtain ⟨x1, e, h⟩ := h
  refine zq_fI f_X12_143 dX12_isSign_1 e ?_
  refine z_if_ne 32 dX12_isSign_4 rfl (fun hc => ?_) (fun hc => ?_)
  · rw [if_neg hc] at h
    refine z_iconst 0 dX12_isSign_32 rfl ?_
    exact z_ireturn .boolean dX12_isSign_33 rfl rfl h
  · rw [if_pos hc] at h
    refine z_aload_n p0 dX12_isSign_7 rfl rfl ?_
    obtain ⟨x2, e, h⟩ := h
    refine zq_fI f_X12_135 dX12_isSign_8 e ?_
    refine z_iconst 3 dX12_isSign_11 rfl ?_
    refine z_icmp_ne 32 dX12_isSign_12 rfl (fun hc => ?_) (fun hc => ?_)
    · rw [if_neg hc] at h
      refine z_iconst 0 dX12_isSign_32 rfl ?_
      exact z_ireturn .boolean dX12_isSign_33 rfl rfl h
    · rw [if_pos hc] at h
      refine z_aload_n p0 dX12_isSign_15 rfl rfl ?_
      obtain ⟨r3, e, h⟩ := h
      refine zq_fR f_X12_19 dX12_isSign_16 e ?_
      refine z_aload_n p0 dX12_isSign_19 rfl rfl ?_
      obtain ⟨x4, e, h⟩ := h
      refine zq_fI f_X12_129 dX12_isSign_20 e ?_
      obtain ⟨x5, e, h⟩ := h
      refine zq_aI dX12_isSign_23 e ?_
      refine z_iload_n a1 dX12_isSign_24 rfl rfl ?_
      refine z_icmp_ne 32 dX12_isSign_25 rfl (fun hc => ?_) (fun hc => ?_)
      · rw [if_neg hc] at h
        refine z_iconst 0 dX12_isSign_32 rfl ?_
        exact z_ireturn .boolean dX12_isSign_33 rfl rfl h
      · rw [if_pos hc] at h
        refine z_iconst 1 dX12_isSign_28 rfl ?_
        refine z_goto 33 dX12_isSign_29 rfl ?_
        exact z_ireturn .boolean dX12_isSign_33 rfl rfl h
theorem eX12_isSign {X : zX} {d kc ks : Nat} {w : zW} {Q : Option Value → zW → Prop} (p0 : Nat) (a1 : Int32) (h : zRn X d kc ks MX12_isSign 0 [some (.ref p0), some (.int a1)] [] w Q) : zEv X d kc ks MX12_isSign [.ref p0, .int a1] w Q :=
  zEv.of (by decide) (Nat.le_of_ble_eq_true rfl) (Or.inr (by simp [Value.category])) h
set_option maxRecDepth 100000 in
set_option maxHeartbeats 4000000 in
theorem bX12_readsChain_0 {X : zX} {d kc ks : Nat} {w : zW} {Q : Option Value → zW → Prop} (p0 : Nat) (a1 : Int32)
    (h : zIs w p0 11 ∧ zCallI X d MX12_many [.ref p0, .int a1] w (fun x2 w1 => zIs w1 p0 11 ∧ zCallI X d MX12_here [.ref p0, .int 0, .int (x2 - 1)] w1 (fun x4 w3 => zIs w3 p0 11 ∧ zCallV X d MX12_passes [.ref p0] w3 (fun w5 => zRn X d kc ks MX12_readsChain 19 [some (.ref p0), some (.int a1), some (.int x4), some (.int 1), none] [] w5 Q)))) :
    zRn X d kc ks MX12_readsChain 0 [some (.ref p0), some (.int a1), none, none, none] [] w Q := by
  refine z_aload_n p0 dX12_readsChain_0 rfl rfl ?_
  refine z_iconst 0 dX12_readsChain_1 rfl ?_
  refine z_aload_n p0 dX12_readsChain_2 rfl rfl ?_
  refine z_iload_n a1 dX12_readsChain_3 rfl rfl ?_
  refine zq_VI (N := MX12_many) (As := [.int a1]) m_X12_76 dX12_readsChain_4 rfl rfl (Nat.le_of_ble_eq_true rfl) h (fun x2 w1 h => ?_)
  refine z_iconst 1 dX12_readsChain_7 rfl ?_
  refine z_isub dX12_readsChain_8 ?_
  refine zq_VI (N := MX12_here) (As := [.int 0, .int (x2 - 1)]) m_X12_169 dX12_readsChain_9 rfl rfl (Nat.le_of_ble_eq_true rfl) h (fun x4 w3 h => ?_)
  refine z_istore_n (i := 2) dX12_readsChain_12 rfl (by decide) rfl ?_
  refine z_aload_n p0 dX12_readsChain_13 rfl rfl ?_
  refine zq_VV (N := MX12_passes) (As := []) m_X12_166 dX12_readsChain_14 rfl rfl (Nat.le_of_ble_eq_true rfl) h (fun w5 h => ?_)
  refine z_iconst 1 dX12_readsChain_17 rfl ?_
  refine z_istore_n (i := 3) dX12_readsChain_18 rfl (by decide) rfl ?_
  exact h
set_option maxRecDepth 100000 in
set_option maxHeartbeats 4000000 in
theorem bX12_readsChain_19 {X : zX} {d kc ks : Nat} {w : zW} {Q : Option Value → zW → Prop} (v0 : Nat) (v1 : Int32) (v2 : Int32) (v3 : Int32)
    (h : if v3 = 0 then (Q none w) else (∃ x1, zfI w v0 11 12 = some x1 ∧ (if x1 = 0 then (zIs w v0 11 ∧ zCallI X d MX12_isSign [.ref v0, .int 60] w (fun x3 w2 => zIs w2 v0 11 ∧ zCallV X d MX12_must [.ref v0, .int x3] w2 (fun w4 => zIs w4 v0 11 ∧ zCallI X d MX12_many [.ref v0, .int v1] w4 (fun x6 w5 => zIs w5 v0 11 ∧ zCallI X d MX12_here [.ref v0, .int 0, .int (x6 - 1)] w5 (fun x8 w7 => ∃ x9, zfI w7 v0 11 12 = some x9 ∧ (if x9 = 0 then (if v2 = x8 then (zRn X d kc ks MX12_readsChain 78 [some (.ref v0), some (.int v1), some (.int v2), none, some (.int x8)] [] w7 Q) else (zIs w7 v0 11 ∧ zCallI X d MX12_isBelow [.ref v0, .int v1, .int x8, .int v2] w7 (fun x11 w10 => if x11 = 0 then (zRn X d kc ks MX12_readsChain 83 [some (.ref v0), some (.int v1), some (.int v2), none, some (.int x8)] [] w10 Q) else (zRn X d kc ks MX12_readsChain 78 [some (.ref v0), some (.int v1), some (.int v2), none, some (.int x8)] [] w10 Q)))) else (zRn X d kc ks MX12_readsChain 83 [some (.ref v0), some (.int v1), some (.int v2), none, some (.int x8)] [] w7 Q))))))) else (Q none w)))) :
    zRn X d kc ks MX12_readsChain 19 [some (.ref v0), some (.int v1), some (.int v2), some (.int v3), none] [] w Q := by
  refine z_iload_n v3 dX12_readsChain_19 rfl rfl ?_
  refine z_if_eq 115 dX12_readsChain_20 rfl (fun hc => ?_) (fun hc => ?_)
  · rw [if_pos hc] at h
    exact z_vreturn dX12_readsChain_115 rfl h
  · rw [if_neg hc] at h
    refine z_aload_n v0 dX12_readsChain_23 rfl rfl ?_
    obtain ⟨x1, e, h⟩ := h
    refine zq_fI f_X12_143 dX12_readsChain_24 e ?_
    refine z_if_ne 115 dX12_readsChain_27 rfl (fun hc => ?_) (fun hc => ?_)
    · rw [if_neg hc] at h
      exact z_vreturn dX12_readsChain_115 rfl h
    · rw [if_pos hc] at h
      refine z_aload_n v0 dX12_readsChain_30 rfl rfl ?_
      refine z_aload_n v0 dX12_readsChain_31 rfl rfl ?_
      refine z_bipush 60 dX12_readsChain_32 rfl ?_
      refine zq_VI (N := MX12_isSign) (As := [.int 60]) m_X12_172 dX12_readsChain_34 rfl rfl (Nat.le_of_ble_eq_true rfl) h (fun x3 w2 h => ?_)
      refine zq_VV (N := MX12_must) (As := [.int x3]) m_X12_175 dX12_readsChain_37 rfl rfl (Nat.le_of_ble_eq_true rfl) h (fun w4 h => ?_)
      refine z_aload_n v0 dX12_readsChain_40 rfl rfl ?_
      refine z_iconst 0 dX12_readsChain_41 rfl ?_
      refine z_aload_n v0 dX12_readsChain_42 rfl rfl ?_
      refine z_iload_n v1 dX12_readsChain_43 rfl rfl ?_
      refine zq_VI (N := MX12_many) (As := [.int v1]) m_X12_76 dX12_readsChain_44 rfl rfl (Nat.le_of_ble_eq_true rfl) h (fun x6 w5 h => ?_)
      refine z_iconst 1 dX12_readsChain_47 rfl ?_
      refine z_isub dX12_readsChain_48 ?_
      refine zq_VI (N := MX12_here) (As := [.int 0, .int (x6 - 1)]) m_X12_169 dX12_readsChain_49 rfl rfl (Nat.le_of_ble_eq_true rfl) h (fun x8 w7 h => ?_)
      refine z_istore (i := 4) dX12_readsChain_52 (by decide) rfl ?_
      refine z_aload_n v0 dX12_readsChain_54 rfl rfl ?_
      obtain ⟨x9, e, h⟩ := h
      refine zq_fI f_X12_143 dX12_readsChain_55 e ?_
      refine z_if_ne 83 dX12_readsChain_58 rfl (fun hc => ?_) (fun hc => ?_)
      · rw [if_neg hc] at h
        exact zRn.weak h (zLe_of [true, true, true, false, true] (And.intro rfl (And.intro rfl (And.intro rfl (And.intro rfl (And.intro rfl (trivial)))))))
      · rw [if_pos hc] at h
        refine z_iload_n v2 dX12_readsChain_61 rfl rfl ?_
        refine z_iload x8 dX12_readsChain_62 rfl ?_
        refine z_icmp_eq 78 dX12_readsChain_64 rfl (fun hc => ?_) (fun hc => ?_)
        · rw [if_pos hc] at h
          exact zRn.weak h (zLe_of [true, true, true, false, true] (And.intro rfl (And.intro rfl (And.intro rfl (And.intro rfl (And.intro rfl (trivial)))))))
        · rw [if_neg hc] at h
          refine z_aload_n v0 dX12_readsChain_67 rfl rfl ?_
          refine z_iload_n v1 dX12_readsChain_68 rfl rfl ?_
          refine z_iload x8 dX12_readsChain_69 rfl ?_
          refine z_iload_n v2 dX12_readsChain_71 rfl rfl ?_
          refine zq_VI (N := MX12_isBelow) (As := [.int v1, .int x8, .int v2]) m_X12_93 dX12_readsChain_72 rfl rfl (Nat.le_of_ble_eq_true rfl) h (fun x11 w10 h => ?_)
          refine z_if_eq 83 dX12_readsChain_75 rfl (fun hc => ?_) (fun hc => ?_)
          · rw [if_pos hc] at h
            exact zRn.weak h (zLe_of [true, true, true, false, true] (And.intro rfl (And.intro rfl (And.intro rfl (And.intro rfl (And.intro rfl (trivial)))))))
          · rw [if_neg hc] at h
            exact zRn.weak h (zLe_of [true, true, true, false, true] (And.intro rfl (And.intro rfl (And.intro rfl (And.intro rfl (And.intro rfl (trivial)))))))
set_option maxRecDepth 100000 in
set_option maxHeartbeats 4000000 in
theorem bX12_readsChain_78 {X : zX} {d kc ks : Nat} {w : zW} {Q : Option Value → zW → Prop} (v0 : Nat) (v1 : Int32) (v2 : Int32) (v4 : Int32)
    (h : zIs w v0 11 ∧ zCallV X d MX12_faults [.ref v0, .int 3] w (fun w1 => zRn X d kc ks MX12_readsChain 83 [some (.ref v0), some (.int v1), some (.int v2), none, some (.int v4)] [] w1 Q)) :
    zRn X d kc ks MX12_readsChain 78 [some (.ref v0), some (.int v1), some (.int v2), none, some (.int v4)] [] w Q := by
  refine z_aload_n v0 dX12_readsChain_78 rfl rfl ?_
  refine z_iconst 3 dX12_readsChain_79 rfl ?_
  refine zq_VV (N := MX12_faults) (As := [.int 3]) m_X12_163 dX12_readsChain_80 rfl rfl (Nat.le_of_ble_eq_true rfl) h (fun w1 h => ?_)
  exact h
set_option maxRecDepth 100000 in
set_option maxHeartbeats 4000000 in
theorem bX12_readsChain_83 {X : zX} {d kc ks : Nat} {w : zW} {Q : Option Value → zW → Prop} (v0 : Nat) (v1 : Int32) (v2 : Int32) (v4 : Int32)
    (h : zIs w v0 11 ∧ zCallV X d MX12_passes [.ref v0] w (fun w1 => ∃ x2, zfI w1 v0 11 12 = some x2 ∧ (if x2 = 0 then (zIs w1 v0 11 ∧ zCallV X d MX12_lies [.ref v0, .int v1, .int v2, .int v4] w1 (fun w3 => zRn X d kc ks MX12_readsChain 102 [some (.ref v0), some (.int v1), none, none, some (.int v4)] [] w3 Q)) else (zRn X d kc ks MX12_readsChain 102 [some (.ref v0), some (.int v1), none, none, some (.int v4)] [] w1 Q)))) :
    zRn X d kc ks MX12_readsChain 83 [some (.ref v0), some (.int v1), some (.int v2), none, some (.int v4)] [] w Q := by
  refine z_aload_n v0 dX12_readsChain_83 rfl rfl ?_
  refine zq_VV (N := MX12_passes) (As := []) m_X12_166 dX12_readsChain_84 rfl rfl (Nat.le_of_ble_eq_true rfl) h (fun w1 h => ?_)
  refine z_aload_n v0 dX12_readsChain_87 rfl rfl ?_
  obtain ⟨x2, e, h⟩ := h
  refine zq_fI f_X12_143 dX12_readsChain_88 e ?_
  refine z_if_ne 102 dX12_readsChain_91 rfl (fun hc => ?_) (fun hc => ?_)
  · rw [if_neg hc] at h
    exact zRn.weak h (zLe_of [true, true, false, true, true] (And.intro rfl (And.intro rfl (And.intro rfl (And.intro rfl (And.intro rfl (trivial)))))))
  · rw [if_pos hc] at h
    refine z_aload_n v0 dX12_readsChain_94 rfl rfl ?_
    refine z_iload_n v1 dX12_readsChain_95 rfl rfl ?_
    refine z_iload_n v2 dX12_readsChain_96 rfl rfl ?_
    refine z_iload v4 dX12_readsChain_97 rfl ?_
    refine zq_VV (N := MX12_lies) (As := [.int v1, .int v2, .int v4]) m_X12_179 dX12_readsChain_99 rfl rfl (Nat.le_of_ble_eq_true rfl) h (fun w3 h => ?_)
    exact zRn.weak h (zLe_of [true, true, false, true, true] (And.intro rfl (And.intro rfl (And.intro rfl (And.intro rfl (And.intro rfl (trivial)))))))
set_option maxRecDepth 100000 in
set_option maxHeartbeats 4000000 in
theorem bX12_readsChain_102 {X : zX} {d kc ks : Nat} {w : zW} {Q : Option Value → zW → Prop} (v0 : Nat) (v1 : Int32) (v4 : Int32)
    (h : zIs w v0 11 ∧ zCallI X d MX12_isSign [.ref v0, .int 60] w (fun x2 w1 => zRn X d kc ks MX12_readsChain 19 [some (.ref v0), some (.int v1), some (.int v4), some (.int x2), none] [] w1 Q)) :
    zRn X d kc ks MX12_readsChain 102 [some (.ref v0), some (.int v1), none, none, some (.int v4)] [] w Q := by
  refine z_iload v4 dX12_readsChain_102 rfl ?_
  refine z_istore_n (i := 2) dX12_readsChain_104 rfl (by decide) rfl ?_
  refine z_aload_n v0 dX12_readsChain_105 rfl rfl ?_
  refine z_bipush 60 dX12_readsChain_106 rfl ?_
  refine zq_VI (N := MX12_isSign) (As := [.int 60]) m_X12_172 dX12_readsChain_108 rfl rfl (Nat.le_of_ble_eq_true rfl) h (fun x2 w1 h => ?_)
  refine z_istore_n (i := 3) dX12_readsChain_111 rfl (by decide) rfl ?_
  refine z_goto 19 dX12_readsChain_112 rfl ?_
  exact zRn.weak h (zLe_of [true, true, true, true, false] (And.intro rfl (And.intro rfl (And.intro rfl (And.intro rfl (And.intro rfl (trivial)))))))
theorem eX12_readsChain {X : zX} {d kc ks : Nat} {w : zW} {Q : Option Value → zW → Prop} (p0 : Nat) (a1 : Int32) (h : zRn X d kc ks MX12_readsChain 0 [some (.ref p0), some (.int a1), none, none, none] [] w Q) : zEv X d kc ks MX12_readsChain [.ref p0, .int a1] w Q :=
  zEv.of (by decide) (Nat.le_of_ble_eq_true rfl) (Or.inr (by simp [Value.category])) h
set_option maxRecDepth 100000 in
set_option maxHeartbeats 4000000 in
theorem bX12_isBelow_0 {X : zX} {d kc ks : Nat} {w : zW} {Q : Option Value → zW → Prop} (p0 : Nat) (a1 : Int32) (a2 : Int32) (a3 : Int32)
    (h : zIs w p0 11 ∧ zCallI X d MX12_under [.ref p0, .int a1, .int a3] w (fun x2 w1 => zCallI X d MX12_has [.int x2, .int a2] w1 (fun x4 w3 => zBool x4 ∧ Q (some (.int x4)) w3))) :
    zRn X d kc ks MX12_isBelow 0 [some (.ref p0), some (.int a1), some (.int a2), some (.int a3)] [] w Q := by
  refine z_aload_n p0 dX12_isBelow_0 rfl rfl ?_
  refine z_iload_n a1 dX12_isBelow_1 rfl rfl ?_
  refine z_iload_n a3 dX12_isBelow_2 rfl rfl ?_
  refine zq_VI (N := MX12_under) (As := [.int a1, .int a3]) m_X12_86 dX12_isBelow_3 rfl rfl (Nat.le_of_ble_eq_true rfl) h (fun x2 w1 h => ?_)
  refine z_iload_n a2 dX12_isBelow_6 rfl rfl ?_
  refine zq_SI (N := MX12_has) (As := [.int x2, .int a2]) m_X12_89 dX12_isBelow_7 rfl rfl (Nat.le_of_ble_eq_true rfl) h (fun x4 w3 h => ?_)
  exact z_ireturn .boolean dX12_isBelow_10 rfl (zBool_n h.1) h.2
theorem eX12_isBelow {X : zX} {d kc ks : Nat} {w : zW} {Q : Option Value → zW → Prop} (p0 : Nat) (a1 : Int32) (a2 : Int32) (a3 : Int32) (h : zRn X d kc ks MX12_isBelow 0 [some (.ref p0), some (.int a1), some (.int a2), some (.int a3)] [] w Q) : zEv X d kc ks MX12_isBelow [.ref p0, .int a1, .int a2, .int a3] w Q :=
  zEv.of (by decide) (Nat.le_of_ble_eq_true rfl) (Or.inr (by simp [Value.category])) h
set_option maxRecDepth 100000 in
set_option maxHeartbeats 4000000 in
theorem bX12_under_0 {X : zX} {d kc ks : Nat} {w : zW} {Q : Option Value → zW → Prop} (p0 : Nat) (a1 : Int32) (a2 : Int32)
    (h : zIs w p0 11 ∧ zCallI X d MX12_of [.ref p0, .int a1, .int ((1 : Int32) + a2)] w (fun x2 w1 => Q (some (.int x2)) w1)) :
    zRn X d kc ks MX12_under 0 [some (.ref p0), some (.int a1), some (.int a2)] [] w Q := by
  refine z_aload_n p0 dX12_under_0 rfl rfl ?_
  refine z_iload_n a1 dX12_under_1 rfl rfl ?_
  refine z_iconst 1 dX12_under_2 rfl ?_
  refine z_iload_n a2 dX12_under_3 rfl rfl ?_
  refine z_iadd dX12_under_4 ?_
  refine zq_VI (N := MX12_of) (As := [.int a1, .int ((1 : Int32) + a2)]) m_X12_68 dX12_under_5 rfl rfl (Nat.le_of_ble_eq_true rfl) h (fun x2 w1 h => ?_)
  exact z_ireturn .int dX12_under_8 rfl rfl h
theorem eX12_under {X : zX} {d kc ks : Nat} {w : zW} {Q : Option Value → zW → Prop} (p0 : Nat) (a1 : Int32) (a2 : Int32) (h : zRn X d kc ks MX12_under 0 [some (.ref p0), some (.int a1), some (.int a2)] [] w Q) : zEv X d kc ks MX12_under [.ref p0, .int a1, .int a2] w Q :=
  zEv.of (by decide) (Nat.le_of_ble_eq_true rfl) (Or.inr (by simp [Value.category])) h
set_option maxRecDepth 100000 in
set_option maxHeartbeats 4000000 in
theorem bX12_has_0 {X : zX} {d kc ks : Nat} {w : zW} {Q : Option Value → zW → Prop} (a0 : Int32) (a1 : Int32)
    (h : if ((a0 >>> (a1 &&& 31)) &&& 1) = 1 then (Q (some (.int 1)) w) else (Q (some (.int 0)) w)) :
    zRn X d kc ks MX12_has 0 [some (.int a0), some (.int a1)] [] w Q := by
  refine z_iload_n a0 dX12_has_0 rfl rfl ?_
  refine z_iload_n a1 dX12_has_1 rfl rfl ?_
  refine z_ishr dX12_has_2 ?_
  refine z_iconst 1 dX12_has_3 rfl ?_
  refine z_iand dX12_has_4 ?_
  refine z_iconst 1 dX12_has_5 rfl ?_
  refine z_icmp_ne 13 dX12_has_6 rfl (fun hc => ?_) (fun hc => ?_)
  · rw [if_neg hc] at h
    refine z_iconst 0 dX12_has_13 rfl ?_
    exact z_ireturn .boolean dX12_has_14 rfl rfl h
  · rw [if_pos hc] at h
    refine z_iconst 1 dX12_has_9 rfl ?_
    refine z_goto 14 dX12_has_10 rfl ?_
    exact z_ireturn .boolean dX12_has_14 rfl rfl h
theorem eX12_has {X : zX} {d kc ks : Nat} {w : zW} {Q : Option Value → zW → Prop} (a0 : Int32) (a1 : Int32) (h : zRn X d kc ks MX12_has 0 [some (.int a0), some (.int a1)] [] w Q) : zEv X d kc ks MX12_has [.int a0, .int a1] w Q :=
  zEv.of (by decide) (Nat.le_of_ble_eq_true rfl) (Or.inr (by simp [Value.category])) h
set_option maxRecDepth 100000 in
set_option maxHeartbeats 4000000 in
theorem bX12_lies_0 {X : zX} {d kc ks : Nat} {w : zW} {Q : Option Value → zW → Prop} (p0 : Nat) (a1 : Int32) (a2 : Int32) (a3 : Int32)
    (h : zIs w p0 11 ∧ zCallI X d MX12_under [.ref p0, .int a1, .int a2] w (fun x2 w1 => zIs w1 p0 11 ∧ zCallI X d MX12_over [.ref p0, .int a1, .int a3] w1 (fun x4 w3 => zRn X d kc ks MX12_lies 27 [some (.ref p0), some (.int a1), none, none, some (.int (x2 ||| ((1 : Int32) <<< (a2 &&& 31)))), some (.int (x4 ||| ((1 : Int32) <<< (a3 &&& 31)))), some (.int 0)] [] w3 Q))) :
    zRn X d kc ks MX12_lies 0 [some (.ref p0), some (.int a1), some (.int a2), some (.int a3), none, none, none] [] w Q := by
  refine z_aload_n p0 dX12_lies_0 rfl rfl ?_
  refine z_iload_n a1 dX12_lies_1 rfl rfl ?_
  refine z_iload_n a2 dX12_lies_2 rfl rfl ?_
  refine zq_VI (N := MX12_under) (As := [.int a1, .int a2]) m_X12_86 dX12_lies_3 rfl rfl (Nat.le_of_ble_eq_true rfl) h (fun x2 w1 h => ?_)
  refine z_iconst 1 dX12_lies_6 rfl ?_
  refine z_iload_n a2 dX12_lies_7 rfl rfl ?_
  refine z_ishl dX12_lies_8 ?_
  refine z_ior dX12_lies_9 ?_
  refine z_istore (i := 4) dX12_lies_10 (by decide) rfl ?_
  refine z_aload_n p0 dX12_lies_12 rfl rfl ?_
  refine z_iload_n a1 dX12_lies_13 rfl rfl ?_
  refine z_iload_n a3 dX12_lies_14 rfl rfl ?_
  refine zq_VI (N := MX12_over) (As := [.int a1, .int a3]) m_X12_97 dX12_lies_15 rfl rfl (Nat.le_of_ble_eq_true rfl) h (fun x4 w3 h => ?_)
  refine z_iconst 1 dX12_lies_18 rfl ?_
  refine z_iload_n a3 dX12_lies_19 rfl rfl ?_
  refine z_ishl dX12_lies_20 ?_
  refine z_ior dX12_lies_21 ?_
  refine z_istore (i := 5) dX12_lies_22 (by decide) rfl ?_
  refine z_iconst 0 dX12_lies_24 rfl ?_
  refine z_istore (i := 6) dX12_lies_25 (by decide) rfl ?_
  exact zRn.weak h (zLe_of [true, true, false, false, true, true, true] (And.intro rfl (And.intro rfl (And.intro rfl (And.intro rfl (And.intro rfl (And.intro rfl (And.intro rfl (trivial)))))))))
set_option maxRecDepth 100000 in
set_option maxHeartbeats 4000000 in
theorem bX12_lies_27 {X : zX} {d kc ks : Nat} {w : zW} {Q : Option Value → zW → Prop} (v0 : Nat) (v1 : Int32) (v4 : Int32) (v5 : Int32) (v6 : Int32)
    (h : zIs w v0 11 ∧ zCallI X d MX12_many [.ref v0, .int v1] w (fun x2 w1 => if x2 ≤ v6 then (Q none w1) else (zCallI X d MX12_has [.int v5, .int v6] w1 (fun x4 w3 => if x4 = 0 then (zRn X d kc ks MX12_lies 66 [some (.ref v0), some (.int v1), none, none, some (.int v4), some (.int v5), some (.int v6)] [] w3 Q) else (zIs w3 v0 11 ∧ zCallI X d MX12_under [.ref v0, .int v1, .int v6] w3 (fun x6 w5 => zIs w5 v0 11 ∧ zCallV X d MX12_lays [.ref v0, .int v1, .int ((1 : Int32) + v6), .int (x6 ||| v4)] w5 (fun w7 => zRn X d kc ks MX12_lies 66 [some (.ref v0), some (.int v1), none, none, some (.int v4), some (.int v5), some (.int v6)] [] w7 Q))))))) :
    zRn X d kc ks MX12_lies 27 [some (.ref v0), some (.int v1), none, none, some (.int v4), some (.int v5), some (.int v6)] [] w Q := by
  refine z_iload v6 dX12_lies_27 rfl ?_
  refine z_aload_n v0 dX12_lies_29 rfl rfl ?_
  refine z_iload_n v1 dX12_lies_30 rfl rfl ?_
  refine zq_VI (N := MX12_many) (As := [.int v1]) m_X12_76 dX12_lies_31 rfl rfl (Nat.le_of_ble_eq_true rfl) h (fun x2 w1 h => ?_)
  refine z_icmp_ge 72 dX12_lies_34 rfl (fun hc => ?_) (fun hc => ?_)
  · rw [if_pos hc] at h
    exact z_vreturn dX12_lies_72 rfl h
  · rw [if_neg hc] at h
    refine z_iload v5 dX12_lies_37 rfl ?_
    refine z_iload v6 dX12_lies_39 rfl ?_
    refine zq_SI (N := MX12_has) (As := [.int v5, .int v6]) m_X12_89 dX12_lies_41 rfl rfl (Nat.le_of_ble_eq_true rfl) h (fun x4 w3 h => ?_)
    refine z_if_eq 66 dX12_lies_44 rfl (fun hc => ?_) (fun hc => ?_)
    · rw [if_pos hc] at h
      exact h
    · rw [if_neg hc] at h
      refine z_aload_n v0 dX12_lies_47 rfl rfl ?_
      refine z_iload_n v1 dX12_lies_48 rfl rfl ?_
      refine z_iconst 1 dX12_lies_49 rfl ?_
      refine z_iload v6 dX12_lies_50 rfl ?_
      refine z_iadd dX12_lies_52 ?_
      refine z_aload_n v0 dX12_lies_53 rfl rfl ?_
      refine z_iload_n v1 dX12_lies_54 rfl rfl ?_
      refine z_iload v6 dX12_lies_55 rfl ?_
      refine zq_VI (N := MX12_under) (As := [.int v1, .int v6]) m_X12_86 dX12_lies_57 rfl rfl (Nat.le_of_ble_eq_true rfl) h (fun x6 w5 h => ?_)
      refine z_iload v4 dX12_lies_60 rfl ?_
      refine z_ior dX12_lies_62 ?_
      refine zq_VV (N := MX12_lays) (As := [.int v1, .int ((1 : Int32) + v6), .int (x6 ||| v4)]) m_X12_109 dX12_lies_63 rfl rfl (Nat.le_of_ble_eq_true rfl) h (fun w7 h => ?_)
      exact h
set_option maxRecDepth 100000 in
set_option maxHeartbeats 4000000 in
theorem bX12_lies_66 {X : zX} {d kc ks : Nat} {w : zW} {Q : Option Value → zW → Prop} (v0 : Nat) (v1 : Int32) (v4 : Int32) (v5 : Int32) (v6 : Int32)
    (h : zRn X d kc ks MX12_lies 27 [some (.ref v0), some (.int v1), none, none, some (.int v4), some (.int v5), some (.int (v6 + 1))] [] w Q) :
    zRn X d kc ks MX12_lies 66 [some (.ref v0), some (.int v1), none, none, some (.int v4), some (.int v5), some (.int v6)] [] w Q := by
  refine z_iinc (i := 6) v6 (v6 + 1) dX12_lies_66 rfl rfl (by decide) rfl ?_
  refine z_goto 27 dX12_lies_69 rfl ?_
  exact h
theorem eX12_lies {X : zX} {d kc ks : Nat} {w : zW} {Q : Option Value → zW → Prop} (p0 : Nat) (a1 : Int32) (a2 : Int32) (a3 : Int32) (h : zRn X d kc ks MX12_lies 0 [some (.ref p0), some (.int a1), some (.int a2), some (.int a3), none, none, none] [] w Q) : zEv X d kc ks MX12_lies [.ref p0, .int a1, .int a2, .int a3] w Q :=
  zEv.of (by decide) (Nat.le_of_ble_eq_true rfl) (Or.inr (by simp [Value.category])) h
set_option maxRecDepth 100000 in
set_option maxHeartbeats 4000000 in
theorem bX12_over_0 {X : zX} {d kc ks : Nat} {w : zW} {Q : Option Value → zW → Prop} (p0 : Nat) (a1 : Int32) (a2 : Int32)
    (h : zRn X d kc ks MX12_over 5 [some (.ref p0), some (.int a1), some (.int a2), some (.int 0), some (.int 0)] [] w Q) :
    zRn X d kc ks MX12_over 0 [some (.ref p0), some (.int a1), some (.int a2), none, none] [] w Q := by
  refine z_iconst 0 dX12_over_0 rfl ?_
  refine z_istore_n (i := 3) dX12_over_1 rfl (by decide) rfl ?_
  refine z_iconst 0 dX12_over_2 rfl ?_
  refine z_istore (i := 4) dX12_over_3 (by decide) rfl ?_
  exact h
set_option maxRecDepth 100000 in
set_option maxHeartbeats 4000000 in
theorem bX12_over_5 {X : zX} {d kc ks : Nat} {w : zW} {Q : Option Value → zW → Prop} (v0 : Nat) (v1 : Int32) (v2 : Int32) (v3 : Int32) (v4 : Int32)
    (h : zIs w v0 11 ∧ zCallI X d MX12_many [.ref v0, .int v1] w (fun x2 w1 => if x2 ≤ v4 then (Q (some (.int v3)) w1) else (zIs w1 v0 11 ∧ zCallI X d MX12_isBelow [.ref v0, .int v1, .int v2, .int v4] w1 (fun x4 w3 => if x4 = 0 then (zRn X d kc ks MX12_over 35 [some (.ref v0), some (.int v1), some (.int v2), none, some (.int v4)] [.int 0, .int v3] w3 Q) else (zRn X d kc ks MX12_over 35 [some (.ref v0), some (.int v1), some (.int v2), none, some (.int v4)] [.int ((1 : Int32) <<< (v4 &&& 31)), .int v3] w3 Q))))) :
    zRn X d kc ks MX12_over 5 [some (.ref v0), some (.int v1), some (.int v2), some (.int v3), some (.int v4)] [] w Q := by
  refine z_iload v4 dX12_over_5 rfl ?_
  refine z_aload_n v0 dX12_over_7 rfl rfl ?_
  refine z_iload_n v1 dX12_over_8 rfl rfl ?_
  refine zq_VI (N := MX12_many) (As := [.int v1]) m_X12_76 dX12_over_9 rfl rfl (Nat.le_of_ble_eq_true rfl) h (fun x2 w1 h => ?_)
  refine z_icmp_ge 43 dX12_over_12 rfl (fun hc => ?_) (fun hc => ?_)
  · rw [if_pos hc] at h
    refine z_iload_n v3 dX12_over_43 rfl rfl ?_
    exact z_ireturn .int dX12_over_44 rfl rfl h
  · rw [if_neg hc] at h
    refine z_iload_n v3 dX12_over_15 rfl rfl ?_
    refine z_aload_n v0 dX12_over_16 rfl rfl ?_
    refine z_iload_n v1 dX12_over_17 rfl rfl ?_
    refine z_iload_n v2 dX12_over_18 rfl rfl ?_
    refine z_iload v4 dX12_over_19 rfl ?_
    refine zq_VI (N := MX12_isBelow) (As := [.int v1, .int v2, .int v4]) m_X12_93 dX12_over_21 rfl rfl (Nat.le_of_ble_eq_true rfl) h (fun x4 w3 h => ?_)
    refine z_if_eq 34 dX12_over_24 rfl (fun hc => ?_) (fun hc => ?_)
    · rw [if_pos hc] at h
      refine z_iconst 0 dX12_over_34 rfl ?_
      exact zRn.weak h (zLe_of [true, true, true, false, true] (And.intro rfl (And.intro rfl (And.intro rfl (And.intro rfl (And.intro rfl (trivial)))))))
    · rw [if_neg hc] at h
      refine z_iconst 1 dX12_over_27 rfl ?_
      refine z_iload v4 dX12_over_28 rfl ?_
      refine z_ishl dX12_over_30 ?_
      refine z_goto 35 dX12_over_31 rfl ?_
      exact zRn.weak h (zLe_of [true, true, true, false, true] (And.intro rfl (And.intro rfl (And.intro rfl (And.intro rfl (And.intro rfl (trivial)))))))
set_option maxRecDepth 100000 in
set_option maxHeartbeats 4000000 in
theorem bX12_over_35 {X : zX} {d kc ks : Nat} {w : zW} {Q : Option Value → zW → Prop} (v0 : Nat) (v1 : Int32) (v2 : Int32) (v4 : Int32) (u0 : Int32) (u1 : Int32)
    (h : zRn X d kc ks MX12_over 5 [some (.ref v0), some (.int v1), some (.int v2), some (.int (u1 ||| u0)), some (.int (v4 + 1))] [] w Q) :
    zRn X d kc ks MX12_over 35 [some (.ref v0), some (.int v1), some (.int v2), none, some (.int v4)] [.int u0, .int u1] w Q := by
  refine z_ior dX12_over_35 ?_
  refine z_istore_n (i := 3) dX12_over_36 rfl (by decide) rfl ?_
  refine z_iinc (i := 4) v4 (v4 + 1) dX12_over_37 rfl rfl (by decide) rfl ?_
  refine z_goto 5 dX12_over_40 rfl ?_
  exact h
theorem eX12_over {X : zX} {d kc ks : Nat} {w : zW} {Q : Option Value → zW → Prop} (p0 : Nat) (a1 : Int32) (a2 : Int32) (h : zRn X d kc ks MX12_over 0 [some (.ref p0), some (.int a1), some (.int a2), none, none] [] w Q) : zEv X d kc ks MX12_over [.ref p0, .int a1, .int a2] w Q :=
  zEv.of (by decide) (Nat.le_of_ble_eq_true rfl) (Or.inr (by simp [Value.category])) h
set_option maxRecDepth 100000 in
set_option maxHeartbeats 4000000 in
theorem bX12_readsRow_0 {X : zX} {d kc ks : Nat} {w : zW} {Q : Option Value → zW → Prop} (p0 : Nat) (a1 : Int32)
    (h : zIs w p0 11 ∧ zCallI X d MX12_rows [.ref p0, .int a1] w (fun x2 w1 => if x2 = 6 then (zIs w1 p0 11 ∧ zCallV X d MX12_faults [.ref p0, .int 5] w1 (fun w3 => zRn X d kc ks MX12_readsRow 15 [some (.ref p0), some (.int a1), none, none, none, none] [] w3 Q)) else (zRn X d kc ks MX12_readsRow 15 [some (.ref p0), some (.int a1), none, none, none, none] [] w1 Q))) :
    zRn X d kc ks MX12_readsRow 0 [some (.ref p0), some (.int a1), none, none, none, none] [] w Q := by
  refine z_aload_n p0 dX12_readsRow_0 rfl rfl ?_
  refine z_iload_n a1 dX12_readsRow_1 rfl rfl ?_
  refine zq_VI (N := MX12_rows) (As := [.int a1]) m_X12_83 dX12_readsRow_2 rfl rfl (Nat.le_of_ble_eq_true rfl) h (fun x2 w1 h => ?_)
  refine z_bipush 6 dX12_readsRow_5 rfl ?_
  refine z_icmp_ne 15 dX12_readsRow_7 rfl (fun hc => ?_) (fun hc => ?_)
  · rw [if_neg hc] at h
    exact h
  · rw [if_pos hc] at h
    refine z_aload_n p0 dX12_readsRow_10 rfl rfl ?_
    refine z_iconst 5 dX12_readsRow_11 rfl ?_
    refine zq_VV (N := MX12_faults) (As := [.int 5]) m_X12_163 dX12_readsRow_12 rfl rfl (Nat.le_of_ble_eq_true rfl) h (fun w3 h => ?_)
    exact h
set_option maxRecDepth 100000 in
set_option maxHeartbeats 4000000 in
theorem bX12_readsRow_15 {X : zX} {d kc ks : Nat} {w : zW} {Q : Option Value → zW → Prop} (v0 : Nat) (v1 : Int32)
    (h : zIs w v0 11 ∧ zCallV X d MX12_passes [.ref v0] w (fun w1 => ∃ x2, zfI w1 v0 11 12 = some x2 ∧ (if x2 = 0 then (∃ x3, zfI w1 v0 11 8 = some x3 ∧ (∃ x4, zfI w1 v0 11 9 = some x4 ∧ (zIs w1 v0 11 ∧ zCallI X d MX12_many [.ref v0, .int v1] w1 (fun x6 w5 => if (x3 - x4) = x6 then (zRn X d kc ks MX12_readsRow 51 [some (.ref v0), some (.int v1), some (.int 0), none, none, none] [.int 1] w5 Q) else (zRn X d kc ks MX12_readsRow 51 [some (.ref v0), some (.int v1), some (.int 0), none, none, none] [.int 0] w5 Q))))) else (Q none w1)))) :
    zRn X d kc ks MX12_readsRow 15 [some (.ref v0), some (.int v1), none, none, none, none] [] w Q := by
  refine z_aload_n v0 dX12_readsRow_15 rfl rfl ?_
  refine zq_VV (N := MX12_passes) (As := []) m_X12_166 dX12_readsRow_16 rfl rfl (Nat.le_of_ble_eq_true rfl) h (fun w1 h => ?_)
  refine z_aload_n v0 dX12_readsRow_19 rfl rfl ?_
  obtain ⟨x2, e, h⟩ := h
  refine zq_fI f_X12_143 dX12_readsRow_20 e ?_
  refine z_if_eq 27 dX12_readsRow_23 rfl (fun hc => ?_) (fun hc => ?_)
  · rw [if_pos hc] at h
    refine z_iconst 0 dX12_readsRow_27 rfl ?_
    refine z_istore_n (i := 2) dX12_readsRow_28 rfl (by decide) rfl ?_
    refine z_aload_n v0 dX12_readsRow_29 rfl rfl ?_
    obtain ⟨x3, e, h⟩ := h
    refine zq_fI f_X12_123 dX12_readsRow_30 e ?_
    refine z_aload_n v0 dX12_readsRow_33 rfl rfl ?_
    obtain ⟨x4, e, h⟩ := h
    refine zq_fI f_X12_129 dX12_readsRow_34 e ?_
    refine z_isub dX12_readsRow_37 ?_
    refine z_aload_n v0 dX12_readsRow_38 rfl rfl ?_
    refine z_iload_n v1 dX12_readsRow_39 rfl rfl ?_
    refine zq_VI (N := MX12_many) (As := [.int v1]) m_X12_76 dX12_readsRow_40 rfl rfl (Nat.le_of_ble_eq_true rfl) h (fun x6 w5 h => ?_)
    refine z_icmp_ne 50 dX12_readsRow_43 rfl (fun hc => ?_) (fun hc => ?_)
    · rw [if_neg hc] at h
      refine z_iconst 0 dX12_readsRow_50 rfl ?_
      exact h
    · rw [if_pos hc] at h
      refine z_iconst 1 dX12_readsRow_46 rfl ?_
      refine z_goto 51 dX12_readsRow_47 rfl ?_
      exact h
  · rw [if_neg hc] at h
    exact z_vreturn dX12_readsRow_26 rfl h
set_option maxRecDepth 100000 in
set_option maxHeartbeats 4000000 in
theorem bX12_readsRow_51 {X : zX} {d kc ks : Nat} {w : zW} {Q : Option Value → zW → Prop} (v0 : Nat) (v1 : Int32) (v2 : Int32) (u0 : Int32)
    (h : ∃ x1, zfI w v0 11 9 = some x1 ∧ (zRn X d kc ks MX12_readsRow 58 [some (.ref v0), some (.int v1), some (.int v2), some (.int u0), some (.int x1), none] [] w Q)) :
    zRn X d kc ks MX12_readsRow 51 [some (.ref v0), some (.int v1), some (.int v2), none, none, none] [.int u0] w Q := by
  refine z_istore_n (i := 3) dX12_readsRow_51 rfl (by decide) rfl ?_
  refine z_aload_n v0 dX12_readsRow_52 rfl rfl ?_
  obtain ⟨x1, e, h⟩ := h
  refine zq_fI f_X12_129 dX12_readsRow_53 e ?_
  refine z_istore (i := 4) dX12_readsRow_56 (by decide) rfl ?_
  exact h
set_option maxRecDepth 100000 in
set_option maxHeartbeats 4000000 in
theorem bX12_readsRow_58 {X : zX} {d kc ks : Nat} {w : zW} {Q : Option Value → zW → Prop} (v0 : Nat) (v1 : Int32) (v2 : Int32) (v3 : Int32) (v4 : Int32)
    (h : ∃ x1, zfI w v0 11 8 = some x1 ∧ (if x1 ≤ v4 then (zRn X d kc ks MX12_readsRow 129 [some (.ref v0), some (.int v1), none, some (.int v3), none, none] [] w Q) else (∃ x2, zfI w v0 11 10 = some x2 ∧ (if x2 = 2 then (∃ r3, zfR w v0 11 4 = some r3 ∧ (∃ x4, zaI w r3 v4 = some x4 ∧ (if v3 = 0 then (zRn X d kc ks MX12_readsRow 114 [some (.ref v0), some (.int v1), some (.int v2), none, some (.int v4), some (.int (x4 - 48))] [] w Q) else (zIs w v0 11 ∧ zCallI X d MX12_many [.ref v0, .int v1] w (fun x6 w5 => if x6 ≤ (x4 - 48) then (zRn X d kc ks MX12_readsRow 114 [some (.ref v0), some (.int v1), some (.int v2), none, some (.int v4), some (.int (x4 - 48))] [] w5 Q) else (zCallI X d MX12_has [.int v2, .int (x4 - 48)] w5 (fun x8 w7 => if x8 = 0 then (zRn X d kc ks MX12_readsRow 115 [some (.ref v0), some (.int v1), some (.int v2), none, some (.int v4), some (.int (x4 - 48))] [.int 1] w7 Q) else (zRn X d kc ks MX12_readsRow 114 [some (.ref v0), some (.int v1), some (.int v2), none, some (.int v4), some (.int (x4 - 48))] [] w7 Q)))))))) else (zRn X d kc ks MX12_readsRow 129 [some (.ref v0), some (.int v1), none, some (.int v3), none, none] [] w Q))))) :
    zRn X d kc ks MX12_readsRow 58 [some (.ref v0), some (.int v1), some (.int v2), some (.int v3), some (.int v4), none] [] w Q := by
  refine z_iload v4 dX12_readsRow_58 rfl ?_
  refine z_aload_n v0 dX12_readsRow_60 rfl rfl ?_
  obtain ⟨x1, e, h⟩ := h
  refine zq_fI f_X12_123 dX12_readsRow_61 e ?_
  refine z_icmp_ge 129 dX12_readsRow_64 rfl (fun hc => ?_) (fun hc => ?_)
  · rw [if_pos hc] at h
    exact zRn.weak h (zLe_of [true, true, false, true, false, true] (And.intro rfl (And.intro rfl (And.intro rfl (And.intro rfl (And.intro rfl (And.intro rfl (trivial))))))))
  · rw [if_neg hc] at h
    refine z_aload_n v0 dX12_readsRow_67 rfl rfl ?_
    obtain ⟨x2, e, h⟩ := h
    refine zq_fI f_X12_135 dX12_readsRow_68 e ?_
    refine z_iconst 2 dX12_readsRow_71 rfl ?_
    refine z_icmp_ne 129 dX12_readsRow_72 rfl (fun hc => ?_) (fun hc => ?_)
    · rw [if_neg hc] at h
      exact zRn.weak h (zLe_of [true, true, false, true, false, true] (And.intro rfl (And.intro rfl (And.intro rfl (And.intro rfl (And.intro rfl (And.intro rfl (trivial))))))))
    · rw [if_pos hc] at h
      refine z_aload_n v0 dX12_readsRow_75 rfl rfl ?_
      obtain ⟨r3, e, h⟩ := h
      refine zq_fR f_X12_19 dX12_readsRow_76 e ?_
      refine z_iload v4 dX12_readsRow_79 rfl ?_
      obtain ⟨x4, e, h⟩ := h
      refine zq_aI dX12_readsRow_81 e ?_
      refine z_bipush 48 dX12_readsRow_82 rfl ?_
      refine z_isub dX12_readsRow_84 ?_
      refine z_istore (i := 5) dX12_readsRow_85 (by decide) rfl ?_
      refine z_iload_n v3 dX12_readsRow_87 rfl rfl ?_
      refine z_if_eq 114 dX12_readsRow_88 rfl (fun hc => ?_) (fun hc => ?_)
      · rw [if_pos hc] at h
        exact zRn.weak h (zLe_of [true, true, true, false, true, true] (And.intro rfl (And.intro rfl (And.intro rfl (And.intro rfl (And.intro rfl (And.intro rfl (trivial))))))))
      · rw [if_neg hc] at h
        refine z_iload (x4 - 48) dX12_readsRow_91 rfl ?_
        refine z_aload_n v0 dX12_readsRow_93 rfl rfl ?_
        refine z_iload_n v1 dX12_readsRow_94 rfl rfl ?_
        refine zq_VI (N := MX12_many) (As := [.int v1]) m_X12_76 dX12_readsRow_95 rfl rfl (Nat.le_of_ble_eq_true rfl) h (fun x6 w5 h => ?_)
        refine z_icmp_ge 114 dX12_readsRow_98 rfl (fun hc => ?_) (fun hc => ?_)
        · rw [if_pos hc] at h
          exact zRn.weak h (zLe_of [true, true, true, false, true, true] (And.intro rfl (And.intro rfl (And.intro rfl (And.intro rfl (And.intro rfl (And.intro rfl (trivial))))))))
        · rw [if_neg hc] at h
          refine z_iload_n v2 dX12_readsRow_101 rfl rfl ?_
          refine z_iload (x4 - 48) dX12_readsRow_102 rfl ?_
          refine zq_SI (N := MX12_has) (As := [.int v2, .int (x4 - 48)]) m_X12_89 dX12_readsRow_104 rfl rfl (Nat.le_of_ble_eq_true rfl) h (fun x8 w7 h => ?_)
          refine z_if_ne 114 dX12_readsRow_107 rfl (fun hc => ?_) (fun hc => ?_)
          · rw [if_neg hc] at h
            exact zRn.weak h (zLe_of [true, true, true, false, true, true] (And.intro rfl (And.intro rfl (And.intro rfl (And.intro rfl (And.intro rfl (And.intro rfl (trivial))))))))
          · rw [if_pos hc] at h
            refine z_iconst 1 dX12_readsRow_110 rfl ?_
            refine z_goto 115 dX12_readsRow_111 rfl ?_
            exact zRn.weak h (zLe_of [true, true, true, false, true, true] (And.intro rfl (And.intro rfl (And.intro rfl (And.intro rfl (And.intro rfl (And.intro rfl (trivial))))))))
set_option maxRecDepth 100000 in
set_option maxHeartbeats 4000000 in
theorem bX12_readsRow_114 {X : zX} {d kc ks : Nat} {w : zW} {Q : Option Value → zW → Prop} (v0 : Nat) (v1 : Int32) (v2 : Int32) (v4 : Int32) (v5 : Int32)
    (h : zRn X d kc ks MX12_readsRow 115 [some (.ref v0), some (.int v1), some (.int v2), none, some (.int v4), some (.int v5)] [.int 0] w Q) :
    zRn X d kc ks MX12_readsRow 114 [some (.ref v0), some (.int v1), some (.int v2), none, some (.int v4), some (.int v5)] [] w Q := by
  refine z_iconst 0 dX12_readsRow_114 rfl ?_
  exact h
set_option maxRecDepth 100000 in
set_option maxHeartbeats 4000000 in
theorem bX12_readsRow_115 {X : zX} {d kc ks : Nat} {w : zW} {Q : Option Value → zW → Prop} (v0 : Nat) (v1 : Int32) (v2 : Int32) (v4 : Int32) (v5 : Int32) (u0 : Int32)
    (h : zRn X d kc ks MX12_readsRow 58 [some (.ref v0), some (.int v1), some (.int (v2 ||| ((1 : Int32) <<< (v5 &&& 31)))), some (.int u0), some (.int (v4 + 1)), none] [] w Q) :
    zRn X d kc ks MX12_readsRow 115 [some (.ref v0), some (.int v1), some (.int v2), none, some (.int v4), some (.int v5)] [.int u0] w Q := by
  refine z_istore_n (i := 3) dX12_readsRow_115 rfl (by decide) rfl ?_
  refine z_iload_n v2 dX12_readsRow_116 rfl rfl ?_
  refine z_iconst 1 dX12_readsRow_117 rfl ?_
  refine z_iload v5 dX12_readsRow_118 rfl ?_
  refine z_ishl dX12_readsRow_120 ?_
  refine z_ior dX12_readsRow_121 ?_
  refine z_istore_n (i := 2) dX12_readsRow_122 rfl (by decide) rfl ?_
  refine z_iinc (i := 4) v4 (v4 + 1) dX12_readsRow_123 rfl rfl (by decide) rfl ?_
  refine z_goto 58 dX12_readsRow_126 rfl ?_
  exact zRn.weak h (zLe_of [true, true, true, true, true, false] (And.intro rfl (And.intro rfl (And.intro rfl (And.intro rfl (And.intro rfl (And.intro rfl (trivial))))))))
set_option maxRecDepth 100000 in
set_option maxHeartbeats 4000000 in
theorem bX12_readsRow_129 {X : zX} {d kc ks : Nat} {w : zW} {Q : Option Value → zW → Prop} (v0 : Nat) (v1 : Int32) (v3 : Int32)
    (h : ∃ x1, zfI w v0 11 10 = some x1 ∧ (if x1 = 2 then (if v3 = 0 then (zIs w v0 11 ∧ zCallV X d MX12_faults [.ref v0, .int 4] w (fun w2 => zRn X d kc ks MX12_readsRow 154 [some (.ref v0), some (.int v1), none, none, none, none] [] w2 Q)) else (zRn X d kc ks MX12_readsRow 154 [some (.ref v0), some (.int v1), none, none, none, none] [] w Q)) else (zIs w v0 11 ∧ zCallV X d MX12_faults [.ref v0, .int 1] w (fun w3 => zRn X d kc ks MX12_readsRow 154 [some (.ref v0), some (.int v1), none, none, none, none] [] w3 Q)))) :
    zRn X d kc ks MX12_readsRow 129 [some (.ref v0), some (.int v1), none, some (.int v3), none, none] [] w Q := by
  refine z_aload_n v0 dX12_readsRow_129 rfl rfl ?_
  obtain ⟨x1, e, h⟩ := h
  refine zq_fI f_X12_135 dX12_readsRow_130 e ?_
  refine z_iconst 2 dX12_readsRow_133 rfl ?_
  refine z_icmp_eq 145 dX12_readsRow_134 rfl (fun hc => ?_) (fun hc => ?_)
  · rw [if_pos hc] at h
    refine z_iload_n v3 dX12_readsRow_145 rfl rfl ?_
    refine z_if_ne 154 dX12_readsRow_146 rfl (fun hc => ?_) (fun hc => ?_)
    · rw [if_neg hc] at h
      exact zRn.weak h (zLe_of [true, true, true, false, true, true] (And.intro rfl (And.intro rfl (And.intro rfl (And.intro rfl (And.intro rfl (And.intro rfl (trivial))))))))
    · rw [if_pos hc] at h
      refine z_aload_n v0 dX12_readsRow_149 rfl rfl ?_
      refine z_iconst 4 dX12_readsRow_150 rfl ?_
      refine zq_VV (N := MX12_faults) (As := [.int 4]) m_X12_163 dX12_readsRow_151 rfl rfl (Nat.le_of_ble_eq_true rfl) h (fun w2 h => ?_)
      exact zRn.weak h (zLe_of [true, true, true, false, true, true] (And.intro rfl (And.intro rfl (And.intro rfl (And.intro rfl (And.intro rfl (And.intro rfl (trivial))))))))
  · rw [if_neg hc] at h
    refine z_aload_n v0 dX12_readsRow_137 rfl rfl ?_
    refine z_iconst 1 dX12_readsRow_138 rfl ?_
    refine zq_VV (N := MX12_faults) (As := [.int 1]) m_X12_163 dX12_readsRow_139 rfl rfl (Nat.le_of_ble_eq_true rfl) h (fun w3 h => ?_)
    refine z_goto 154 dX12_readsRow_142 rfl ?_
    exact zRn.weak h (zLe_of [true, true, true, false, true, true] (And.intro rfl (And.intro rfl (And.intro rfl (And.intro rfl (And.intro rfl (And.intro rfl (trivial))))))))
set_option maxRecDepth 100000 in
set_option maxHeartbeats 4000000 in
theorem bX12_readsRow_154 {X : zX} {d kc ks : Nat} {w : zW} {Q : Option Value → zW → Prop} (v0 : Nat) (v1 : Int32)
    (h : zRn X d kc ks MX12_readsRow 157 [some (.ref v0), some (.int v1), none, none, some (.int 0), none] [] w Q) :
    zRn X d kc ks MX12_readsRow 154 [some (.ref v0), some (.int v1), none, none, none, none] [] w Q := by
  refine z_iconst 0 dX12_readsRow_154 rfl ?_
  refine z_istore (i := 4) dX12_readsRow_155 (by decide) rfl ?_
  exact h
set_option maxRecDepth 100000 in
set_option maxHeartbeats 4000000 in
theorem bX12_readsRow_157 {X : zX} {d kc ks : Nat} {w : zW} {Q : Option Value → zW → Prop} (v0 : Nat) (v1 : Int32) (v4 : Int32)
    (h : zIs w v0 11 ∧ zCallI X d MX12_many [.ref v0, .int v1] w (fun x2 w1 => if x2 ≤ v4 then (zRn X d kc ks MX12_readsRow 214 [some (.ref v0), some (.int v1), none, none, none, none] [] w1 Q) else (∃ x3, zfI w1 v0 11 12 = some x3 ∧ (if x3 = 0 then (zIs w1 v0 11 ∧ zCallI X d MX12_rows [.ref v0, .int v1] w1 (fun x5 w4 => ∃ r6, zfR w4 v0 11 4 = some r6 ∧ (∃ x7, zfI w4 v0 11 9 = some x7 ∧ (∃ x8, zaI w4 r6 (x7 + v4) = some x8 ∧ (zIs w4 v0 11 ∧ zCallV X d MX12_lays [.ref v0, .int v1, .int (((10 : Int32) + ((8 : Int32) * x5)) + v4), .int (x8 - 48)] w4 (fun w9 => zRn X d kc ks MX12_readsRow 157 [some (.ref v0), some (.int v1), none, none, some (.int (v4 + 1)), none] [] w9 Q)))))) else (zRn X d kc ks MX12_readsRow 214 [some (.ref v0), some (.int v1), none, none, none, none] [] w1 Q))))) :
    zRn X d kc ks MX12_readsRow 157 [some (.ref v0), some (.int v1), none, none, some (.int v4), none] [] w Q := by
  refine z_iload v4 dX12_readsRow_157 rfl ?_
  refine z_aload_n v0 dX12_readsRow_159 rfl rfl ?_
  refine z_iload_n v1 dX12_readsRow_160 rfl rfl ?_
  refine zq_VI (N := MX12_many) (As := [.int v1]) m_X12_76 dX12_readsRow_161 rfl rfl (Nat.le_of_ble_eq_true rfl) h (fun x2 w1 h => ?_)
  refine z_icmp_ge 214 dX12_readsRow_164 rfl (fun hc => ?_) (fun hc => ?_)
  · rw [if_pos hc] at h
    exact zRn.weak h (zLe_of [true, true, true, true, false, true] (And.intro rfl (And.intro rfl (And.intro rfl (And.intro rfl (And.intro rfl (And.intro rfl (trivial))))))))
  · rw [if_neg hc] at h
    refine z_aload_n v0 dX12_readsRow_167 rfl rfl ?_
    obtain ⟨x3, e, h⟩ := h
    refine zq_fI f_X12_143 dX12_readsRow_168 e ?_
    refine z_if_ne 214 dX12_readsRow_171 rfl (fun hc => ?_) (fun hc => ?_)
    · rw [if_neg hc] at h
      exact zRn.weak h (zLe_of [true, true, true, true, false, true] (And.intro rfl (And.intro rfl (And.intro rfl (And.intro rfl (And.intro rfl (And.intro rfl (trivial))))))))
    · rw [if_pos hc] at h
      refine z_aload_n v0 dX12_readsRow_174 rfl rfl ?_
      refine z_iload_n v1 dX12_readsRow_175 rfl rfl ?_
      refine z_bipush 10 dX12_readsRow_176 rfl ?_
      refine z_bipush 8 dX12_readsRow_178 rfl ?_
      refine z_aload_n v0 dX12_readsRow_180 rfl rfl ?_
      refine z_iload_n v1 dX12_readsRow_181 rfl rfl ?_
      refine zq_VI (N := MX12_rows) (As := [.int v1]) m_X12_83 dX12_readsRow_182 rfl rfl (Nat.le_of_ble_eq_true rfl) h (fun x5 w4 h => ?_)
      refine z_imul dX12_readsRow_185 ?_
      refine z_iadd dX12_readsRow_186 ?_
      refine z_iload v4 dX12_readsRow_187 rfl ?_
      refine z_iadd dX12_readsRow_189 ?_
      refine z_aload_n v0 dX12_readsRow_190 rfl rfl ?_
      obtain ⟨r6, e, h⟩ := h
      refine zq_fR f_X12_19 dX12_readsRow_191 e ?_
      refine z_aload_n v0 dX12_readsRow_194 rfl rfl ?_
      obtain ⟨x7, e, h⟩ := h
      refine zq_fI f_X12_129 dX12_readsRow_195 e ?_
      refine z_iload v4 dX12_readsRow_198 rfl ?_
      refine z_iadd dX12_readsRow_200 ?_
      obtain ⟨x8, e, h⟩ := h
      refine zq_aI dX12_readsRow_201 e ?_
      refine z_bipush 48 dX12_readsRow_202 rfl ?_
      refine z_isub dX12_readsRow_204 ?_
      refine zq_VV (N := MX12_lays) (As := [.int v1, .int (((10 : Int32) + ((8 : Int32) * x5)) + v4), .int (x8 - 48)]) m_X12_109 dX12_readsRow_205 rfl rfl (Nat.le_of_ble_eq_true rfl) h (fun w9 h => ?_)
      refine z_iinc (i := 4) v4 (v4 + 1) dX12_readsRow_208 rfl rfl (by decide) rfl ?_
      refine z_goto 157 dX12_readsRow_211 rfl ?_
      exact h
set_option maxRecDepth 100000 in
set_option maxHeartbeats 4000000 in
theorem bX12_readsRow_214 {X : zX} {d kc ks : Nat} {w : zW} {Q : Option Value → zW → Prop} (v0 : Nat) (v1 : Int32)
    (h : zIs w v0 11 ∧ zCallV X d MX12_passes [.ref v0] w (fun w1 => zIs w1 v0 11 ∧ zCallI X d MX12_isSign [.ref v0, .int 59] w1 (fun x3 w2 => zIs w2 v0 11 ∧ zCallV X d MX12_must [.ref v0, .int x3] w2 (fun w4 => ∃ x5, zfI w4 v0 11 12 = some x5 ∧ (if x5 = 0 then (zIs w4 v0 11 ∧ zCallI X d MX12_rows [.ref v0, .int v1] w4 (fun x7 w6 => zIs w6 v0 11 ∧ zCallV X d MX12_lays [.ref v0, .int v1, .int 9, .int (x7 + 1)] w6 (fun w8 => Q none w8))) else (Q none w4)))))) :
    zRn X d kc ks MX12_readsRow 214 [some (.ref v0), some (.int v1), none, none, none, none] [] w Q := by
  refine z_aload_n v0 dX12_readsRow_214 rfl rfl ?_
  refine zq_VV (N := MX12_passes) (As := []) m_X12_166 dX12_readsRow_215 rfl rfl (Nat.le_of_ble_eq_true rfl) h (fun w1 h => ?_)
  refine z_aload_n v0 dX12_readsRow_218 rfl rfl ?_
  refine z_aload_n v0 dX12_readsRow_219 rfl rfl ?_
  refine z_bipush 59 dX12_readsRow_220 rfl ?_
  refine zq_VI (N := MX12_isSign) (As := [.int 59]) m_X12_172 dX12_readsRow_222 rfl rfl (Nat.le_of_ble_eq_true rfl) h (fun x3 w2 h => ?_)
  refine zq_VV (N := MX12_must) (As := [.int x3]) m_X12_175 dX12_readsRow_225 rfl rfl (Nat.le_of_ble_eq_true rfl) h (fun w4 h => ?_)
  refine z_aload_n v0 dX12_readsRow_228 rfl rfl ?_
  obtain ⟨x5, e, h⟩ := h
  refine zq_fI f_X12_143 dX12_readsRow_229 e ?_
  refine z_if_ne 249 dX12_readsRow_232 rfl (fun hc => ?_) (fun hc => ?_)
  · rw [if_neg hc] at h
    exact z_vreturn dX12_readsRow_249 rfl h
  · rw [if_pos hc] at h
    refine z_aload_n v0 dX12_readsRow_235 rfl rfl ?_
    refine z_iload_n v1 dX12_readsRow_236 rfl rfl ?_
    refine z_bipush 9 dX12_readsRow_237 rfl ?_
    refine z_aload_n v0 dX12_readsRow_239 rfl rfl ?_
    refine z_iload_n v1 dX12_readsRow_240 rfl rfl ?_
    refine zq_VI (N := MX12_rows) (As := [.int v1]) m_X12_83 dX12_readsRow_241 rfl rfl (Nat.le_of_ble_eq_true rfl) h (fun x7 w6 h => ?_)
    refine z_iconst 1 dX12_readsRow_244 rfl ?_
    refine z_iadd dX12_readsRow_245 ?_
    refine zq_VV (N := MX12_lays) (As := [.int v1, .int 9, .int (x7 + 1)]) m_X12_109 dX12_readsRow_246 rfl rfl (Nat.le_of_ble_eq_true rfl) h (fun w8 h => ?_)
    exact z_vreturn dX12_readsRow_249 rfl h
theorem eX12_readsRow {X : zX} {d kc ks : Nat} {w : zW} {Q : Option Value → zW → Prop} (p0 : Nat) (a1 : Int32) (h : zRn X d kc ks MX12_readsRow 0 [some (.ref p0), some (.int a1), none, none, none, none] [] w Q) : zEv X d kc ks MX12_readsRow [.ref p0, .int a1] w Q :=
  zEv.of (by decide) (Nat.le_of_ble_eq_true rfl) (Or.inr (by simp [Value.category])) h
set_option maxRecDepth 100000 in
set_option maxHeartbeats 4000000 in
theorem bX12_rows_0 {X : zX} {d kc ks : Nat} {w : zW} {Q : Option Value → zW → Prop} (p0 : Nat) (a1 : Int32)
    (h : zIs w p0 11 ∧ zCallI X d MX12_of [.ref p0, .int a1, .int 9] w (fun x2 w1 => Q (some (.int x2)) w1)) :
    zRn X d kc ks MX12_rows 0 [some (.ref p0), some (.int a1)] [] w Q := by
  refine z_aload_n p0 dX12_rows_0 rfl rfl ?_
  refine z_iload_n a1 dX12_rows_1 rfl rfl ?_
  refine z_bipush 9 dX12_rows_2 rfl ?_
  refine zq_VI (N := MX12_of) (As := [.int a1, .int 9]) m_X12_68 dX12_rows_4 rfl rfl (Nat.le_of_ble_eq_true rfl) h (fun x2 w1 h => ?_)
  exact z_ireturn .int dX12_rows_7 rfl rfl h
theorem eX12_rows {X : zX} {d kc ks : Nat} {w : zW} {Q : Option Value → zW → Prop} (p0 : Nat) (a1 : Int32) (h : zRn X d kc ks MX12_rows 0 [some (.ref p0), some (.int a1)] [] w Q) : zEv X d kc ks MX12_rows [.ref p0, .int a1] w Q :=
  zEv.of (by decide) (Nat.le_of_ble_eq_true rfl) (Or.inr (by simp [Value.category])) h
set_option maxRecDepth 100000 in
set_option maxHeartbeats 4000000 in
theorem bX12_belowMany_0 {X : zX} {d kc ks : Nat} {w : zW} {Q : Option Value → zW → Prop} (p0 : Nat) (a1 : Int32)
    (h : zRn X d kc ks MX12_belowMany 4 [some (.ref p0), some (.int a1), some (.int 0), some (.int 0)] [] w Q) :
    zRn X d kc ks MX12_belowMany 0 [some (.ref p0), some (.int a1), none, none] [] w Q := by
  refine z_iconst 0 dX12_belowMany_0 rfl ?_
  refine z_istore_n (i := 2) dX12_belowMany_1 rfl (by decide) rfl ?_
  refine z_iconst 0 dX12_belowMany_2 rfl ?_
  refine z_istore_n (i := 3) dX12_belowMany_3 rfl (by decide) rfl ?_
  exact h
set_option maxRecDepth 100000 in
set_option maxHeartbeats 4000000 in
theorem bX12_belowMany_4 {X : zX} {d kc ks : Nat} {w : zW} {Q : Option Value → zW → Prop} (v0 : Nat) (v1 : Int32) (v2 : Int32) (v3 : Int32)
    (h : zIs w v0 11 ∧ zCallI X d MX12_many [.ref v0, .int v1] w (fun x2 w1 => if x2 ≤ v3 then (Q (some (.int v2)) w1) else (zIs w1 v0 11 ∧ zCallI X d MX12_under [.ref v0, .int v1, .int v3] w1 (fun x4 w3 => zCallI X d MX12_ones [.int x4] w3 (fun x6 w5 => zRn X d kc ks MX12_belowMany 4 [some (.ref v0), some (.int v1), some (.int (v2 + x6)), some (.int (v3 + 1))] [] w5 Q))))) :
    zRn X d kc ks MX12_belowMany 4 [some (.ref v0), some (.int v1), some (.int v2), some (.int v3)] [] w Q := by
  refine z_iload_n v3 dX12_belowMany_4 rfl rfl ?_
  refine z_aload_n v0 dX12_belowMany_5 rfl rfl ?_
  refine z_iload_n v1 dX12_belowMany_6 rfl rfl ?_
  refine zq_VI (N := MX12_many) (As := [.int v1]) m_X12_76 dX12_belowMany_7 rfl rfl (Nat.le_of_ble_eq_true rfl) h (fun x2 w1 h => ?_)
  refine z_icmp_ge 31 dX12_belowMany_10 rfl (fun hc => ?_) (fun hc => ?_)
  · rw [if_pos hc] at h
    refine z_iload_n v2 dX12_belowMany_31 rfl rfl ?_
    exact z_ireturn .int dX12_belowMany_32 rfl rfl h
  · rw [if_neg hc] at h
    refine z_iload_n v2 dX12_belowMany_13 rfl rfl ?_
    refine z_aload_n v0 dX12_belowMany_14 rfl rfl ?_
    refine z_iload_n v1 dX12_belowMany_15 rfl rfl ?_
    refine z_iload_n v3 dX12_belowMany_16 rfl rfl ?_
    refine zq_VI (N := MX12_under) (As := [.int v1, .int v3]) m_X12_86 dX12_belowMany_17 rfl rfl (Nat.le_of_ble_eq_true rfl) h (fun x4 w3 h => ?_)
    refine zq_SI (N := MX12_ones) (As := [.int x4]) m_X12_100 dX12_belowMany_20 rfl rfl (Nat.le_of_ble_eq_true rfl) h (fun x6 w5 h => ?_)
    refine z_iadd dX12_belowMany_23 ?_
    refine z_istore_n (i := 2) dX12_belowMany_24 rfl (by decide) rfl ?_
    refine z_iinc (i := 3) v3 (v3 + 1) dX12_belowMany_25 rfl rfl (by decide) rfl ?_
    refine z_goto 4 dX12_belowMany_28 rfl ?_
    exact h
theorem eX12_belowMany {X : zX} {d kc ks : Nat} {w : zW} {Q : Option Value → zW → Prop} (p0 : Nat) (a1 : Int32) (h : zRn X d kc ks MX12_belowMany 0 [some (.ref p0), some (.int a1), none, none] [] w Q) : zEv X d kc ks MX12_belowMany [.ref p0, .int a1] w Q :=
  zEv.of (by decide) (Nat.le_of_ble_eq_true rfl) (Or.inr (by simp [Value.category])) h
set_option maxRecDepth 100000 in
set_option maxHeartbeats 4000000 in
theorem bX12_ones_0 {X : zX} {d kc ks : Nat} {w : zW} {Q : Option Value → zW → Prop} (a0 : Int32)
    (h : zRn X d kc ks MX12_ones 4 [none, some (.int 0), some (.int a0)] [] w Q) :
    zRn X d kc ks MX12_ones 0 [some (.int a0), none, none] [] w Q := by
  refine z_iconst 0 dX12_ones_0 rfl ?_
  refine z_istore_n (i := 1) dX12_ones_1 rfl (by decide) rfl ?_
  refine z_iload_n a0 dX12_ones_2 rfl rfl ?_
  refine z_istore_n (i := 2) dX12_ones_3 rfl (by decide) rfl ?_
  exact zRn.weak h (zLe_of [false, true, true] (And.intro rfl (And.intro rfl (And.intro rfl (trivial)))))
set_option maxRecDepth 100000 in
set_option maxHeartbeats 4000000 in
theorem bX12_ones_4 {X : zX} {d kc ks : Nat} {w : zW} {Q : Option Value → zW → Prop} (v1 : Int32) (v2 : Int32)
    (h : if v2 = 0 then (Q (some (.int v1)) w) else (zRn X d kc ks MX12_ones 4 [none, some (.int (v1 + 1)), some (.int (v2 &&& (v2 - 1)))] [] w Q)) :
    zRn X d kc ks MX12_ones 4 [none, some (.int v1), some (.int v2)] [] w Q := by
  refine z_iload_n v2 dX12_ones_4 rfl rfl ?_
  refine z_if_eq 20 dX12_ones_5 rfl (fun hc => ?_) (fun hc => ?_)
  · rw [if_pos hc] at h
    refine z_iload_n v1 dX12_ones_20 rfl rfl ?_
    exact z_ireturn .int dX12_ones_21 rfl rfl h
  · rw [if_neg hc] at h
    refine z_iinc (i := 1) v1 (v1 + 1) dX12_ones_8 rfl rfl (by decide) rfl ?_
    refine z_iload_n v2 dX12_ones_11 rfl rfl ?_
    refine z_iload_n v2 dX12_ones_12 rfl rfl ?_
    refine z_iconst 1 dX12_ones_13 rfl ?_
    refine z_isub dX12_ones_14 ?_
    refine z_iand dX12_ones_15 ?_
    refine z_istore_n (i := 2) dX12_ones_16 rfl (by decide) rfl ?_
    refine z_goto 4 dX12_ones_17 rfl ?_
    exact h
theorem eX12_ones {X : zX} {d kc ks : Nat} {w : zW} {Q : Option Value → zW → Prop} (a0 : Int32) (h : zRn X d kc ks MX12_ones 0 [some (.int a0), none, none] [] w Q) : zEv X d kc ks MX12_ones [.int a0] w Q :=
  zEv.of (by decide) (Nat.le_of_ble_eq_true rfl) (Or.inr (by simp [Value.category])) h
set_option maxRecDepth 100000 in
set_option maxHeartbeats 4000000 in
theorem bX12_done_0 {X : zX} {d kc ks : Nat} {w : zW} {Q : Option Value → zW → Prop} (p0 : Nat) (a1 : Int32)
    (h : zRn X d kc ks MX12_done 2 [some (.ref p0), some (.int a1), some (.int 0)] [] w Q) :
    zRn X d kc ks MX12_done 0 [some (.ref p0), some (.int a1), none] [] w Q := by
  refine z_iconst 0 dX12_done_0 rfl ?_
  refine z_istore_n (i := 2) dX12_done_1 rfl (by decide) rfl ?_
  exact h
set_option maxRecDepth 100000 in
set_option maxHeartbeats 4000000 in
theorem bX12_done_2 {X : zX} {d kc ks : Nat} {w : zW} {Q : Option Value → zW → Prop} (v0 : Nat) (v1 : Int32) (v2 : Int32)
    (h : if 174 ≤ v2 then (Q (some (.int v1)) w) else (∃ r1, zfR w v0 11 1 = some r1 ∧ (∃ x2, zaI w r1 v2 = some x2 ∧ (∃ r3, zfR w v0 11 0 = some r3 ∧ (∃ x4, zaI w r3 v2 = some x4 ∧ (if x2 = x4 then (zRn X d kc ks MX12_done 2 [some (.ref v0), some (.int v1), some (.int (v2 + 1))] [] w Q) else (zIs w v0 11 ∧ zCallI X d MX12_keeps [.ref v0, .int v1] w (fun x6 w5 => Q (some (.int x6)) w5)))))))) :
    zRn X d kc ks MX12_done 2 [some (.ref v0), some (.int v1), some (.int v2)] [] w Q := by
  refine z_iload_n v2 dX12_done_2 rfl rfl ?_
  refine z_sipush 174 dX12_done_3 rfl ?_
  refine z_icmp_ge 36 dX12_done_6 rfl (fun hc => ?_) (fun hc => ?_)
  · rw [if_pos hc] at h
    refine z_iload_n v1 dX12_done_36 rfl rfl ?_
    exact z_ireturn .int dX12_done_37 rfl rfl h
  · rw [if_neg hc] at h
    refine z_aload_n v0 dX12_done_9 rfl rfl ?_
    obtain ⟨r1, e, h⟩ := h
    refine zq_fR f_X12_13 dX12_done_10 e ?_
    refine z_iload_n v2 dX12_done_13 rfl rfl ?_
    obtain ⟨x2, e, h⟩ := h
    refine zq_aI dX12_done_14 e ?_
    refine z_aload_n v0 dX12_done_15 rfl rfl ?_
    obtain ⟨r3, e, h⟩ := h
    refine zq_fR f_X12_7 dX12_done_16 e ?_
    refine z_iload_n v2 dX12_done_19 rfl rfl ?_
    obtain ⟨x4, e, h⟩ := h
    refine zq_aI dX12_done_20 e ?_
    refine z_icmp_eq 30 dX12_done_21 rfl (fun hc => ?_) (fun hc => ?_)
    · rw [if_pos hc] at h
      refine z_iinc (i := 2) v2 (v2 + 1) dX12_done_30 rfl rfl (by decide) rfl ?_
      refine z_goto 2 dX12_done_33 rfl ?_
      exact h
    · rw [if_neg hc] at h
      refine z_aload_n v0 dX12_done_24 rfl rfl ?_
      refine z_iload_n v1 dX12_done_25 rfl rfl ?_
      refine zq_VI (N := MX12_keeps) (As := [.int v1]) m_X12_106 dX12_done_26 rfl rfl (Nat.le_of_ble_eq_true rfl) h (fun x6 w5 h => ?_)
      exact z_ireturn .int dX12_done_29 rfl rfl h
theorem eX12_done {X : zX} {d kc ks : Nat} {w : zW} {Q : Option Value → zW → Prop} (p0 : Nat) (a1 : Int32) (h : zRn X d kc ks MX12_done 0 [some (.ref p0), some (.int a1), none] [] w Q) : zEv X d kc ks MX12_done [.ref p0, .int a1] w Q :=
  zEv.of (by decide) (Nat.le_of_ble_eq_true rfl) (Or.inr (by simp [Value.category])) h
set_option maxRecDepth 100000 in
set_option maxHeartbeats 4000000 in
theorem bX12_fault_0 {X : zX} {d kc ks : Nat} {w : zW} {Q : Option Value → zW → Prop} (p0 : Nat) (a1 : Int32)
    (h : if a1 = 0 then (∃ x2, zfI w p0 11 6 = some x2 ∧ (Q (some (.int x2)) w)) else (if a1 = 1 then (∃ x1, zfI w p0 11 7 = some x1 ∧ (Q (some (.int x1)) w)) else (Q (some (.int (-1))) w))) :
    zRn X d kc ks MX12_fault 0 [some (.ref p0), some (.int a1)] [] w Q := by
  refine z_iload_n a1 dX12_fault_0 rfl rfl ?_
  refine z_if_ne 11 dX12_fault_1 rfl (fun hc => ?_) (fun hc => ?_)
  · rw [if_neg hc] at h
    refine z_iload_n a1 dX12_fault_11 rfl rfl ?_
    refine z_iconst 1 dX12_fault_12 rfl ?_
    refine z_icmp_ne 23 dX12_fault_13 rfl (fun hc => ?_) (fun hc => ?_)
    · rw [if_neg hc] at h
      refine z_iconst (-1) dX12_fault_23 rfl ?_
      exact z_ireturn .int dX12_fault_24 rfl rfl h
    · rw [if_pos hc] at h
      refine z_aload_n p0 dX12_fault_16 rfl rfl ?_
      obtain ⟨x1, e, h⟩ := h
      refine zq_fI f_X12_22 dX12_fault_17 e ?_
      refine z_goto 24 dX12_fault_20 rfl ?_
      exact z_ireturn .int dX12_fault_24 rfl rfl h
  · rw [if_pos hc] at h
    refine z_aload_n p0 dX12_fault_4 rfl rfl ?_
    obtain ⟨x2, e, h⟩ := h
    refine zq_fI f_X12_147 dX12_fault_5 e ?_
    refine z_goto 24 dX12_fault_8 rfl ?_
    exact z_ireturn .int dX12_fault_24 rfl rfl h
theorem eX12_fault {X : zX} {d kc ks : Nat} {w : zW} {Q : Option Value → zW → Prop} (p0 : Nat) (a1 : Int32) (h : zRn X d kc ks MX12_fault 0 [some (.ref p0), some (.int a1)] [] w Q) : zEv X d kc ks MX12_fault [.ref p0, .int a1] w Q :=
  zEv.of (by decide) (Nat.le_of_ble_eq_true rfl) (Or.inr (by simp [Value.category])) h
set_option maxRecDepth 100000 in
set_option maxHeartbeats 4000000 in
theorem bX12_count_0 {X : zX} {d kc ks : Nat} {w : zW} {Q : Option Value → zW → Prop} (p0 : Nat) (a1 : Int32)
    (h : zRn X d kc ks MX12_count 4 [some (.ref p0), some (.int a1), some (.int 0), some (.int 0)] [] w Q) :
    zRn X d kc ks MX12_count 0 [some (.ref p0), some (.int a1), none, none] [] w Q := by
  refine z_iconst 0 dX12_count_0 rfl ?_
  refine z_istore_n (i := 2) dX12_count_1 rfl (by decide) rfl ?_
  refine z_iconst 0 dX12_count_2 rfl ?_
  refine z_istore_n (i := 3) dX12_count_3 rfl (by decide) rfl ?_
  exact h
set_option maxRecDepth 100000 in
set_option maxHeartbeats 4000000 in
theorem bX12_count_4 {X : zX} {d kc ks : Nat} {w : zW} {Q : Option Value → zW → Prop} (v0 : Nat) (v1 : Int32) (v2 : Int32) (v3 : Int32)
    (h : if 3 ≤ v3 then ((v1 = 0 → (Q (some (.int v2)) w)) ∧ (v1 = 1 → (∃ x1, zfI w v0 11 3 = some x1 ∧ (Q (some (.int x1)) w))) ∧ (v1 = 2 → (∃ x2, zfI w v0 11 5 = some x2 ∧ (Q (some (.int x2)) w))) ∧ (v1 = 3 → (∃ x3, zfI w v0 11 28 = some x3 ∧ (Q (some (.int x3)) w))) ∧ (¬ (0 ≤ v1 ∧ v1 < 4) → (Q (some (.int (-1))) w))) else (zIs w v0 11 ∧ zCallI X d MX12_isOrder [.ref v0, .int v3] w (fun x5 w4 => if x5 = 0 then (zRn X d kc ks MX12_count 25 [some (.ref v0), some (.int v1), none, some (.int v3)] [.int 0, .int v2] w4 Q) else (zRn X d kc ks MX12_count 25 [some (.ref v0), some (.int v1), none, some (.int v3)] [.int ((1 : Int32) <<< (v3 &&& 31)), .int v2] w4 Q)))) :
    zRn X d kc ks MX12_count 4 [some (.ref v0), some (.int v1), some (.int v2), some (.int v3)] [] w Q := by
  refine z_iload_n v3 dX12_count_4 rfl rfl ?_
  refine z_iconst 3 dX12_count_5 rfl ?_
  refine z_icmp_ge 33 dX12_count_6 rfl (fun hc => ?_) (fun hc => ?_)
  · rw [if_pos hc] at h
    refine z_iload_n v1 dX12_count_33 rfl rfl ?_
    rcases pk_ix v1 (n := 4) (by decide) with hx | hx | ⟨j, hj, hx⟩
    · refine z_tableOut 81 dX12_count_34 (zsw_lo hx) rfl ?_
      have h := h.2.2.2.2 (fun q => absurd hx (Int32.not_lt.mpr q.1))
      refine z_iconst (-1) dX12_count_81 rfl ?_
      exact z_ireturn .int dX12_count_82 rfl rfl h
    · refine z_tableOut 81 dX12_count_34 (zsw_hi (n := 4) (by decide) rfl hx) rfl ?_
      have h := h.2.2.2.2 (fun q => absurd q.2 (Int32.not_lt.mpr hx))
      refine z_iconst (-1) dX12_count_81 rfl ?_
      exact z_ireturn .int dX12_count_82 rfl rfl h
    · rcases (show j = 0 ∨ j = 1 ∨ j = 2 ∨ j = 3 by omega) with rfl | rfl | rfl | rfl
      · refine z_tableIn 64 dX12_count_34 (by rw [hx]; decide) (by rw [hx]; decide) (by rw [hx]; rfl) rfl ?_
        have h := h.1 hx
        refine z_iload_n v2 dX12_count_64 rfl rfl ?_
        exact z_ireturn .int dX12_count_65 rfl rfl h
      · refine z_tableIn 66 dX12_count_34 (by rw [hx]; decide) (by rw [hx]; decide) (by rw [hx]; rfl) rfl ?_
        have h := h.2.1 hx
        refine z_aload_n v0 dX12_count_66 rfl rfl ?_
        obtain ⟨x1, e, h⟩ := h
        refine zq_fI f_X12_103 dX12_count_67 e ?_
        exact z_ireturn .int dX12_count_70 rfl rfl h
      · refine z_tableIn 71 dX12_count_34 (by rw [hx]; decide) (by rw [hx]; decide) (by rw [hx]; rfl) rfl ?_
        have h := h.2.2.1 hx
        refine z_aload_n v0 dX12_count_71 rfl rfl ?_
        obtain ⟨x2, e, h⟩ := h
        refine zq_fI f_X12_120 dX12_count_72 e ?_
        exact z_ireturn .int dX12_count_75 rfl rfl h
      · refine z_tableIn 76 dX12_count_34 (by rw [hx]; decide) (by rw [hx]; decide) (by rw [hx]; rfl) rfl ?_
        have h := h.2.2.2.1 hx
        refine z_aload_n v0 dX12_count_76 rfl rfl ?_
        obtain ⟨x3, e, h⟩ := h
        refine zq_fI f_X12_205 dX12_count_77 e ?_
        exact z_ireturn .int dX12_count_80 rfl rfl h
  · rw [if_neg hc] at h
    refine z_iload_n v2 dX12_count_9 rfl rfl ?_
    refine z_aload_n v0 dX12_count_10 rfl rfl ?_
    refine z_iload_n v3 dX12_count_11 rfl rfl ?_
    refine zq_VI (N := MX12_isOrder) (As := [.int v3]) m_X12_80 dX12_count_12 rfl rfl (Nat.le_of_ble_eq_true rfl) h (fun x5 w4 h => ?_)
    refine z_if_eq 24 dX12_count_15 rfl (fun hc => ?_) (fun hc => ?_)
    · rw [if_pos hc] at h
      refine z_iconst 0 dX12_count_24 rfl ?_
      exact zRn.weak h (zLe_of [true, true, false, true] (And.intro rfl (And.intro rfl (And.intro rfl (And.intro rfl (trivial))))))
    · rw [if_neg hc] at h
      refine z_iconst 1 dX12_count_18 rfl ?_
      refine z_iload_n v3 dX12_count_19 rfl rfl ?_
      refine z_ishl dX12_count_20 ?_
      refine z_goto 25 dX12_count_21 rfl ?_
      exact zRn.weak h (zLe_of [true, true, false, true] (And.intro rfl (And.intro rfl (And.intro rfl (And.intro rfl (trivial))))))
set_option maxRecDepth 100000 in
set_option maxHeartbeats 4000000 in
theorem bX12_count_25 {X : zX} {d kc ks : Nat} {w : zW} {Q : Option Value → zW → Prop} (v0 : Nat) (v1 : Int32) (v3 : Int32) (u0 : Int32) (u1 : Int32)
    (h : zRn X d kc ks MX12_count 4 [some (.ref v0), some (.int v1), some (.int (u1 ||| u0)), some (.int (v3 + 1))] [] w Q) :
    zRn X d kc ks MX12_count 25 [some (.ref v0), some (.int v1), none, some (.int v3)] [.int u0, .int u1] w Q := by
  refine z_ior dX12_count_25 ?_
  refine z_istore_n (i := 2) dX12_count_26 rfl (by decide) rfl ?_
  refine z_iinc (i := 3) v3 (v3 + 1) dX12_count_27 rfl rfl (by decide) rfl ?_
  refine z_goto 4 dX12_count_30 rfl ?_
  exact h
theorem eX12_count {X : zX} {d kc ks : Nat} {w : zW} {Q : Option Value → zW → Prop} (p0 : Nat) (a1 : Int32) (h : zRn X d kc ks MX12_count 0 [some (.ref p0), some (.int a1), none, none] [] w Q) : zEv X d kc ks MX12_count [.ref p0, .int a1] w Q :=
  zEv.of (by decide) (Nat.le_of_ble_eq_true rfl) (Or.inr (by simp [Value.category])) h
set_option maxRecDepth 100000 in
set_option maxHeartbeats 4000000 in
theorem bX12_deep_0 {X : zX} {d kc ks : Nat} {w : zW} {Q : Option Value → zW → Prop} (p0 : Nat) (a1 : Int32) (a2 : Int32) (a3 : Int32)
    (h : zIs w p0 11 ∧ zCallI X d MX12_isThing [.ref p0, .int a1, .int a2] w (fun x2 w1 => if x2 = 0 then (Q (some (.int (-2))) w1) else (zCallI X d MX12_in [.long ((a3 : Int32).toInt64), .long 0, .long 1] w1 (fun x4 w3 => if x4 = 0 then (Q (some (.int (-2))) w3) else (if a3 = 1 then (zRn X d kc ks MX12_deep 32 [none, none, none, none] [.int 1, .int a2, .int a1, .ref p0] w3 Q) else (zRn X d kc ks MX12_deep 32 [none, none, none, none] [.int 0, .int a2, .int a1, .ref p0] w3 Q)))))) :
    zRn X d kc ks MX12_deep 0 [some (.ref p0), some (.int a1), some (.int a2), some (.int a3)] [] w Q := by
  refine z_aload_n p0 dX12_deep_0 rfl rfl ?_
  refine z_iload_n a1 dX12_deep_1 rfl rfl ?_
  refine z_iload_n a2 dX12_deep_2 rfl rfl ?_
  refine zq_VI (N := MX12_isThing) (As := [.int a1, .int a2]) m_X12_215 dX12_deep_3 rfl rfl (Nat.le_of_ble_eq_true rfl) h (fun x2 w1 h => ?_)
  refine z_if_eq 38 dX12_deep_6 rfl (fun hc => ?_) (fun hc => ?_)
  · rw [if_pos hc] at h
    refine z_bipush (-2) dX12_deep_38 rfl ?_
    exact z_ireturn .int dX12_deep_40 rfl rfl h
  · rw [if_neg hc] at h
    refine z_iload_n a3 dX12_deep_9 rfl rfl ?_
    refine z_i2l dX12_deep_10 ?_
    refine z_lconst 0 dX12_deep_11 rfl ?_
    refine z_lconst 1 dX12_deep_12 rfl ?_
    refine zq_SI (N := MX12_in) (As := [.long ((a3 : Int32).toInt64), .long 0, .long 1]) m_X12_64 dX12_deep_13 rfl rfl (Nat.le_of_ble_eq_true rfl) h (fun x4 w3 h => ?_)
    refine z_if_eq 38 dX12_deep_16 rfl (fun hc => ?_) (fun hc => ?_)
    · rw [if_pos hc] at h
      refine z_bipush (-2) dX12_deep_38 rfl ?_
      exact z_ireturn .int dX12_deep_40 rfl rfl h
    · rw [if_neg hc] at h
      refine z_aload_n p0 dX12_deep_19 rfl rfl ?_
      refine z_iload_n a1 dX12_deep_20 rfl rfl ?_
      refine z_iload_n a2 dX12_deep_21 rfl rfl ?_
      refine z_iload_n a3 dX12_deep_22 rfl rfl ?_
      refine z_iconst 1 dX12_deep_23 rfl ?_
      refine z_icmp_ne 31 dX12_deep_24 rfl (fun hc => ?_) (fun hc => ?_)
      · rw [if_neg hc] at h
        refine z_iconst 0 dX12_deep_31 rfl ?_
        exact zRn.weak h (zLe_of [false, false, false, false] (And.intro rfl (And.intro rfl (And.intro rfl (And.intro rfl (trivial))))))
      · rw [if_pos hc] at h
        refine z_iconst 1 dX12_deep_27 rfl ?_
        refine z_goto 32 dX12_deep_28 rfl ?_
        exact zRn.weak h (zLe_of [false, false, false, false] (And.intro rfl (And.intro rfl (And.intro rfl (And.intro rfl (trivial))))))
set_option maxRecDepth 100000 in
set_option maxHeartbeats 4000000 in
theorem bX12_deep_32 {X : zX} {d kc ks : Nat} {w : zW} {Q : Option Value → zW → Prop} (u0 : Int32) (u1 : Int32) (u2 : Int32) (u3 : Nat)
    (h : zIs w u3 11 ∧ zCallI X d MX12_deepOf [.ref u3, .int u2, .int u1, .int u0] w (fun x2 w1 => Q (some (.int x2)) w1)) :
    zRn X d kc ks MX12_deep 32 [none, none, none, none] [.int u0, .int u1, .int u2, .ref u3] w Q := by
  refine zq_VI (N := MX12_deepOf) (As := [.int u2, .int u1, .int u0]) m_X12_208 dX12_deep_32 rfl rfl (Nat.le_of_ble_eq_true rfl) h (fun x2 w1 h => ?_)
  refine z_goto 40 dX12_deep_35 rfl ?_
  exact z_ireturn .int dX12_deep_40 rfl rfl h
theorem eX12_deep {X : zX} {d kc ks : Nat} {w : zW} {Q : Option Value → zW → Prop} (p0 : Nat) (a1 : Int32) (a2 : Int32) (a3 : Int32) (h : zRn X d kc ks MX12_deep 0 [some (.ref p0), some (.int a1), some (.int a2), some (.int a3)] [] w Q) : zEv X d kc ks MX12_deep [.ref p0, .int a1, .int a2, .int a3] w Q :=
  zEv.of (by decide) (Nat.le_of_ble_eq_true rfl) (Or.inr (by simp [Value.category])) h
set_option maxRecDepth 100000 in
set_option maxHeartbeats 4000000 in
theorem bX12_isThing_0 {X : zX} {d kc ks : Nat} {w : zW} {Q : Option Value → zW → Prop} (p0 : Nat) (a1 : Int32) (a2 : Int32)
    (h : zIs w p0 11 ∧ zCallI X d MX12_isOrder [.ref p0, .int a1] w (fun x2 w1 => if x2 = 0 then (Q (some (.int 0)) w1) else (zIs w1 p0 11 ∧ zCallI X d MX12_many [.ref p0, .int a1] w1 (fun x4 w3 => zCallI X d MX12_in [.long ((a2 : Int32).toInt64), .long 0, .long ((x4 - 1 : Int32).toInt64)] w3 (fun x6 w5 => if x6 = 0 then (Q (some (.int 0)) w5) else (Q (some (.int 1)) w5)))))) :
    zRn X d kc ks MX12_isThing 0 [some (.ref p0), some (.int a1), some (.int a2)] [] w Q := by
  refine z_aload_n p0 dX12_isThing_0 rfl rfl ?_
  refine z_iload_n a1 dX12_isThing_1 rfl rfl ?_
  refine zq_VI (N := MX12_isOrder) (As := [.int a1]) m_X12_80 dX12_isThing_2 rfl rfl (Nat.le_of_ble_eq_true rfl) h (fun x2 w1 h => ?_)
  refine z_if_eq 29 dX12_isThing_5 rfl (fun hc => ?_) (fun hc => ?_)
  · rw [if_pos hc] at h
    refine z_iconst 0 dX12_isThing_29 rfl ?_
    exact z_ireturn .boolean dX12_isThing_30 rfl rfl h
  · rw [if_neg hc] at h
    refine z_iload_n a2 dX12_isThing_8 rfl rfl ?_
    refine z_i2l dX12_isThing_9 ?_
    refine z_lconst 0 dX12_isThing_10 rfl ?_
    refine z_aload_n p0 dX12_isThing_11 rfl rfl ?_
    refine z_iload_n a1 dX12_isThing_12 rfl rfl ?_
    refine zq_VI (N := MX12_many) (As := [.int a1]) m_X12_76 dX12_isThing_13 rfl rfl (Nat.le_of_ble_eq_true rfl) h (fun x4 w3 h => ?_)
    refine z_iconst 1 dX12_isThing_16 rfl ?_
    refine z_isub dX12_isThing_17 ?_
    refine z_i2l dX12_isThing_18 ?_
    refine zq_SI (N := MX12_in) (As := [.long ((a2 : Int32).toInt64), .long 0, .long ((x4 - 1 : Int32).toInt64)]) m_X12_64 dX12_isThing_19 rfl rfl (Nat.le_of_ble_eq_true rfl) h (fun x6 w5 h => ?_)
    refine z_if_eq 29 dX12_isThing_22 rfl (fun hc => ?_) (fun hc => ?_)
    · rw [if_pos hc] at h
      refine z_iconst 0 dX12_isThing_29 rfl ?_
      exact z_ireturn .boolean dX12_isThing_30 rfl rfl h
    · rw [if_neg hc] at h
      refine z_iconst 1 dX12_isThing_25 rfl ?_
      refine z_goto 30 dX12_isThing_26 rfl ?_
      exact z_ireturn .boolean dX12_isThing_30 rfl rfl h
theorem eX12_isThing {X : zX} {d kc ks : Nat} {w : zW} {Q : Option Value → zW → Prop} (p0 : Nat) (a1 : Int32) (a2 : Int32) (h : zRn X d kc ks MX12_isThing 0 [some (.ref p0), some (.int a1), some (.int a2)] [] w Q) : zEv X d kc ks MX12_isThing [.ref p0, .int a1, .int a2] w Q :=
  zEv.of (by decide) (Nat.le_of_ble_eq_true rfl) (Or.inr (by simp [Value.category])) h
set_option maxRecDepth 100000 in
set_option maxHeartbeats 4000000 in
theorem bX12_deepOf_0 {X : zX} {d kc ks : Nat} {w : zW} {Q : Option Value → zW → Prop} (p0 : Nat) (a1 : Int32) (a2 : Int32) (a3 : Int32)
    (h : if a3 = 0 then (zIs w p0 11 ∧ zCallI X d MX12_under [.ref p0, .int a1, .int a2] w (fun x2 w1 => zRn X d kc ks MX12_deepOf 19 [some (.ref p0), some (.int a1), none, some (.int a3), none, none, none] [.int x2] w1 Q)) else (zIs w p0 11 ∧ zCallI X d MX12_over [.ref p0, .int a1, .int a2] w (fun x4 w3 => zRn X d kc ks MX12_deepOf 19 [some (.ref p0), some (.int a1), none, some (.int a3), none, none, none] [.int x4] w3 Q))) :
    zRn X d kc ks MX12_deepOf 0 [some (.ref p0), some (.int a1), some (.int a2), some (.int a3), none, none, none] [] w Q := by
  refine z_iload_n a3 dX12_deepOf_0 rfl rfl ?_
  refine z_if_eq 13 dX12_deepOf_1 rfl (fun hc => ?_) (fun hc => ?_)
  · rw [if_pos hc] at h
    refine z_aload_n p0 dX12_deepOf_13 rfl rfl ?_
    refine z_iload_n a1 dX12_deepOf_14 rfl rfl ?_
    refine z_iload_n a2 dX12_deepOf_15 rfl rfl ?_
    refine zq_VI (N := MX12_under) (As := [.int a1, .int a2]) m_X12_86 dX12_deepOf_16 rfl rfl (Nat.le_of_ble_eq_true rfl) h (fun x2 w1 h => ?_)
    exact zRn.weak h (zLe_of [true, true, false, true, true, true, true] (And.intro rfl (And.intro rfl (And.intro rfl (And.intro rfl (And.intro rfl (And.intro rfl (And.intro rfl (trivial)))))))))
  · rw [if_neg hc] at h
    refine z_aload_n p0 dX12_deepOf_4 rfl rfl ?_
    refine z_iload_n a1 dX12_deepOf_5 rfl rfl ?_
    refine z_iload_n a2 dX12_deepOf_6 rfl rfl ?_
    refine zq_VI (N := MX12_over) (As := [.int a1, .int a2]) m_X12_97 dX12_deepOf_7 rfl rfl (Nat.le_of_ble_eq_true rfl) h (fun x4 w3 h => ?_)
    refine z_goto 19 dX12_deepOf_10 rfl ?_
    exact zRn.weak h (zLe_of [true, true, false, true, true, true, true] (And.intro rfl (And.intro rfl (And.intro rfl (And.intro rfl (And.intro rfl (And.intro rfl (And.intro rfl (trivial)))))))))
set_option maxRecDepth 100000 in
set_option maxHeartbeats 4000000 in
theorem bX12_deepOf_19 {X : zX} {d kc ks : Nat} {w : zW} {Q : Option Value → zW → Prop} (v0 : Nat) (v1 : Int32) (v3 : Int32) (u0 : Int32)
    (h : zRn X d kc ks MX12_deepOf 27 [some (.ref v0), some (.int v1), none, some (.int v3), some (.int u0), some (.int 0), some (.int 0)] [] w Q) :
    zRn X d kc ks MX12_deepOf 19 [some (.ref v0), some (.int v1), none, some (.int v3), none, none, none] [.int u0] w Q := by
  refine z_istore (i := 4) dX12_deepOf_19 (by decide) rfl ?_
  refine z_iconst 0 dX12_deepOf_21 rfl ?_
  refine z_istore (i := 5) dX12_deepOf_22 (by decide) rfl ?_
  refine z_iconst 0 dX12_deepOf_24 rfl ?_
  refine z_istore (i := 6) dX12_deepOf_25 (by decide) rfl ?_
  exact h
set_option maxRecDepth 100000 in
set_option maxHeartbeats 4000000 in
theorem bX12_deepOf_27 {X : zX} {d kc ks : Nat} {w : zW} {Q : Option Value → zW → Prop} (v0 : Nat) (v1 : Int32) (v3 : Int32) (v4 : Int32) (v5 : Int32) (v6 : Int32)
    (h : zIs w v0 11 ∧ zCallI X d MX12_many [.ref v0, .int v1] w (fun x2 w1 => if x2 ≤ v6 then (Q (some (.int (v5 + 1))) w1) else (zCallI X d MX12_has [.int v4, .int v6] w1 (fun x4 w3 => if x4 = 0 then (zRn X d kc ks MX12_deepOf 65 [some (.ref v0), some (.int v1), none, some (.int v3), some (.int v4), none, some (.int v6)] [.int v5] w3 Q) else (zIs w3 v0 11 ∧ zCallI X d MX12_deepOf [.ref v0, .int v1, .int v6, .int v3] w3 (fun x6 w5 => 0 < d ∧ (zRn X d kc ks MX12_deepOf 65 [some (.ref v0), some (.int v1), none, some (.int v3), some (.int v4), none, some (.int v6)] [.int (if v5 < x6 then x6 else v5)] w5 Q))))))) :
    zRn X d kc ks MX12_deepOf 27 [some (.ref v0), some (.int v1), none, some (.int v3), some (.int v4), some (.int v5), some (.int v6)] [] w Q := by
  refine z_iload v6 dX12_deepOf_27 rfl ?_
  refine z_aload_n v0 dX12_deepOf_29 rfl rfl ?_
  refine z_iload_n v1 dX12_deepOf_30 rfl rfl ?_
  refine zq_VI (N := MX12_many) (As := [.int v1]) m_X12_76 dX12_deepOf_31 rfl rfl (Nat.le_of_ble_eq_true rfl) h (fun x2 w1 h => ?_)
  refine z_icmp_ge 73 dX12_deepOf_34 rfl (fun hc => ?_) (fun hc => ?_)
  · rw [if_pos hc] at h
    refine z_iload v5 dX12_deepOf_73 rfl ?_
    refine z_iconst 1 dX12_deepOf_75 rfl ?_
    refine z_iadd dX12_deepOf_76 ?_
    exact z_ireturn .int dX12_deepOf_77 rfl rfl h
  · rw [if_neg hc] at h
    refine z_iload v4 dX12_deepOf_37 rfl ?_
    refine z_iload v6 dX12_deepOf_39 rfl ?_
    refine zq_SI (N := MX12_has) (As := [.int v4, .int v6]) m_X12_89 dX12_deepOf_41 rfl rfl (Nat.le_of_ble_eq_true rfl) h (fun x4 w3 h => ?_)
    refine z_if_eq 63 dX12_deepOf_44 rfl (fun hc => ?_) (fun hc => ?_)
    · rw [if_pos hc] at h
      refine z_iload v5 dX12_deepOf_63 rfl ?_
      exact zRn.weak h (zLe_of [true, true, true, true, true, false, true] (And.intro rfl (And.intro rfl (And.intro rfl (And.intro rfl (And.intro rfl (And.intro rfl (And.intro rfl (trivial)))))))))
    · rw [if_neg hc] at h
      refine z_iload v5 dX12_deepOf_47 rfl ?_
      refine z_aload_n v0 dX12_deepOf_49 rfl rfl ?_
      refine z_iload_n v1 dX12_deepOf_50 rfl rfl ?_
      refine z_iload v6 dX12_deepOf_51 rfl ?_
      refine z_iload_n v3 dX12_deepOf_53 rfl rfl ?_
      refine zq_VI (N := MX12_deepOf) (As := [.int v1, .int v6, .int v3]) m_X12_208 dX12_deepOf_54 rfl rfl (Nat.le_of_ble_eq_true rfl) h (fun x6 w5 h => ?_)
      refine z_mmax g_1455 g_191 g_106 g_192 dX12_deepOf_57 (Nat.le_of_ble_eq_true rfl) h.1 ?_
      have h := h.2
      refine z_goto 65 dX12_deepOf_60 rfl ?_
      exact zRn.weak h (zLe_of [true, true, true, true, true, false, true] (And.intro rfl (And.intro rfl (And.intro rfl (And.intro rfl (And.intro rfl (And.intro rfl (And.intro rfl (trivial)))))))))
set_option maxRecDepth 100000 in
set_option maxHeartbeats 4000000 in
theorem bX12_deepOf_65 {X : zX} {d kc ks : Nat} {w : zW} {Q : Option Value → zW → Prop} (v0 : Nat) (v1 : Int32) (v3 : Int32) (v4 : Int32) (v6 : Int32) (u0 : Int32)
    (h : zRn X d kc ks MX12_deepOf 27 [some (.ref v0), some (.int v1), none, some (.int v3), some (.int v4), some (.int u0), some (.int (v6 + 1))] [] w Q) :
    zRn X d kc ks MX12_deepOf 65 [some (.ref v0), some (.int v1), none, some (.int v3), some (.int v4), none, some (.int v6)] [.int u0] w Q := by
  refine z_istore (i := 5) dX12_deepOf_65 (by decide) rfl ?_
  refine z_iinc (i := 6) v6 (v6 + 1) dX12_deepOf_67 rfl rfl (by decide) rfl ?_
  refine z_goto 27 dX12_deepOf_70 rfl ?_
  exact h
theorem eX12_deepOf {X : zX} {d kc ks : Nat} {w : zW} {Q : Option Value → zW → Prop} (p0 : Nat) (a1 : Int32) (a2 : Int32) (a3 : Int32) (h : zRn X d kc ks MX12_deepOf 0 [some (.ref p0), some (.int a1), some (.int a2), some (.int a3), none, none, none] [] w Q) : zEv X d kc ks MX12_deepOf [.ref p0, .int a1, .int a2, .int a3] w Q :=
  zEv.of (by decide) (Nat.le_of_ble_eq_true rfl) (Or.inr (by simp [Value.category])) h
set_option maxRecDepth 100000 in
set_option maxHeartbeats 4000000 in
theorem bX12_chain_0 {X : zX} {d kc ks : Nat} {w : zW} {Q : Option Value → zW → Prop} (p0 : Nat) (a1 : Int32) (a2 : Int32)
    (h : zIs w p0 11 ∧ zCallI X d MX12_isOrder [.ref p0, .int a1] w (fun x2 w1 => if x2 = 0 then (Q (some (.int (-2))) w1) else (if 0 ≤ a2 then (zIs w1 p0 11 ∧ zCallI X d MX12_height [.ref p0, .int a1] w1 (fun x4 w3 => zIs w3 p0 11 ∧ zCallI X d MX12_many [.ref p0, .int a1] w3 (fun x6 w5 => zRn X d kc ks MX12_chain 35 [some (.ref p0), some (.int a1), some (.int a2), some (.int x4), some (.int (((1 : Int32) <<< (x6 &&& 31)) - 1)), some (.int 0), none] [] w5 Q))) else (Q (some (.int (-2))) w1)))) :
    zRn X d kc ks MX12_chain 0 [some (.ref p0), some (.int a1), some (.int a2), none, none, none, none] [] w Q := by
  refine z_aload_n p0 dX12_chain_0 rfl rfl ?_
  refine z_iload_n a1 dX12_chain_1 rfl rfl ?_
  refine zq_VI (N := MX12_isOrder) (As := [.int a1]) m_X12_80 dX12_chain_2 rfl rfl (Nat.le_of_ble_eq_true rfl) h (fun x2 w1 h => ?_)
  refine z_if_eq 12 dX12_chain_5 rfl (fun hc => ?_) (fun hc => ?_)
  · rw [if_pos hc] at h
    refine z_bipush (-2) dX12_chain_12 rfl ?_
    exact z_ireturn .int dX12_chain_14 rfl rfl h
  · rw [if_neg hc] at h
    refine z_iload_n a2 dX12_chain_8 rfl rfl ?_
    refine z_if_ge 15 dX12_chain_9 rfl (fun hc => ?_) (fun hc => ?_)
    · rw [if_pos hc] at h
      refine z_aload_n p0 dX12_chain_15 rfl rfl ?_
      refine z_iload_n a1 dX12_chain_16 rfl rfl ?_
      refine zq_VI (N := MX12_height) (As := [.int a1]) m_X12_218 dX12_chain_17 rfl rfl (Nat.le_of_ble_eq_true rfl) h (fun x4 w3 h => ?_)
      refine z_istore_n (i := 3) dX12_chain_20 rfl (by decide) rfl ?_
      refine z_iconst 1 dX12_chain_21 rfl ?_
      refine z_aload_n p0 dX12_chain_22 rfl rfl ?_
      refine z_iload_n a1 dX12_chain_23 rfl rfl ?_
      refine zq_VI (N := MX12_many) (As := [.int a1]) m_X12_76 dX12_chain_24 rfl rfl (Nat.le_of_ble_eq_true rfl) h (fun x6 w5 h => ?_)
      refine z_ishl dX12_chain_27 ?_
      refine z_iconst 1 dX12_chain_28 rfl ?_
      refine z_isub dX12_chain_29 ?_
      refine z_istore (i := 4) dX12_chain_30 (by decide) rfl ?_
      refine z_iconst 0 dX12_chain_32 rfl ?_
      refine z_istore (i := 5) dX12_chain_33 (by decide) rfl ?_
      exact h
    · rw [if_neg hc] at h
      refine z_bipush (-2) dX12_chain_12 rfl ?_
      exact z_ireturn .int dX12_chain_14 rfl rfl h
set_option maxRecDepth 100000 in
set_option maxHeartbeats 4000000 in
theorem bX12_chain_35 {X : zX} {d kc ks : Nat} {w : zW} {Q : Option Value → zW → Prop} (v0 : Nat) (v1 : Int32) (v2 : Int32) (v3 : Int32) (v4 : Int32) (v5 : Int32)
    (h : if v3 ≤ 0 then (Q (some (.int (-1))) w) else (zRn X d kc ks MX12_chain 42 [some (.ref v0), some (.int v1), some (.int v2), some (.int v3), some (.int v4), some (.int v5), some (.int 0)] [] w Q)) :
    zRn X d kc ks MX12_chain 35 [some (.ref v0), some (.int v1), some (.int v2), some (.int v3), some (.int v4), some (.int v5), none] [] w Q := by
  refine z_iload_n v3 dX12_chain_35 rfl rfl ?_
  refine z_if_le 97 dX12_chain_36 rfl (fun hc => ?_) (fun hc => ?_)
  · rw [if_pos hc] at h
    refine z_iconst (-1) dX12_chain_97 rfl ?_
    exact z_ireturn .int dX12_chain_98 rfl rfl h
  · rw [if_neg hc] at h
    refine z_iconst 0 dX12_chain_39 rfl ?_
    refine z_istore (i := 6) dX12_chain_40 (by decide) rfl ?_
    exact h
set_option maxRecDepth 100000 in
set_option maxHeartbeats 4000000 in
theorem bX12_chain_42 {X : zX} {d kc ks : Nat} {w : zW} {Q : Option Value → zW → Prop} (v0 : Nat) (v1 : Int32) (v2 : Int32) (v3 : Int32) (v4 : Int32) (v5 : Int32) (v6 : Int32)
    (h : zCallI X d MX12_has [.int v4, .int v6] w (fun x2 w1 => if x2 = 0 then (zRn X d kc ks MX12_chain 64 [some (.ref v0), some (.int v1), some (.int v2), some (.int v3), some (.int v4), some (.int v5), some (.int v6)] [] w1 Q) else (zIs w1 v0 11 ∧ zCallI X d MX12_deepOf [.ref v0, .int v1, .int v6, .int 1] w1 (fun x4 w3 => if x4 = v3 then (if v5 = v2 then (Q (some (.int v6)) w3) else (zIs w3 v0 11 ∧ zCallI X d MX12_over [.ref v0, .int v1, .int v6] w3 (fun x6 w5 => zRn X d kc ks MX12_chain 35 [some (.ref v0), some (.int v1), some (.int v2), some (.int (v3 - 1)), some (.int x6), some (.int (v5 + 1)), none] [] w5 Q))) else (zRn X d kc ks MX12_chain 64 [some (.ref v0), some (.int v1), some (.int v2), some (.int v3), some (.int v4), some (.int v5), some (.int v6)] [] w3 Q))))) :
    zRn X d kc ks MX12_chain 42 [some (.ref v0), some (.int v1), some (.int v2), some (.int v3), some (.int v4), some (.int v5), some (.int v6)] [] w Q := by
  refine z_iload v4 dX12_chain_42 rfl ?_
  refine z_iload v6 dX12_chain_44 rfl ?_
  refine zq_SI (N := MX12_has) (As := [.int v4, .int v6]) m_X12_89 dX12_chain_46 rfl rfl (Nat.le_of_ble_eq_true rfl) h (fun x2 w1 h => ?_)
  refine z_if_eq 64 dX12_chain_49 rfl (fun hc => ?_) (fun hc => ?_)
  · rw [if_pos hc] at h
    exact h
  · rw [if_neg hc] at h
    refine z_aload_n v0 dX12_chain_52 rfl rfl ?_
    refine z_iload_n v1 dX12_chain_53 rfl rfl ?_
    refine z_iload v6 dX12_chain_54 rfl ?_
    refine z_iconst 1 dX12_chain_56 rfl ?_
    refine zq_VI (N := MX12_deepOf) (As := [.int v1, .int v6, .int 1]) m_X12_208 dX12_chain_57 rfl rfl (Nat.le_of_ble_eq_true rfl) h (fun x4 w3 h => ?_)
    refine z_iload_n v3 dX12_chain_60 rfl rfl ?_
    refine z_icmp_eq 70 dX12_chain_61 rfl (fun hc => ?_) (fun hc => ?_)
    · rw [if_pos hc] at h
      refine z_iload v5 dX12_chain_70 rfl ?_
      refine z_iload_n v2 dX12_chain_72 rfl rfl ?_
      refine z_icmp_ne 79 dX12_chain_73 rfl (fun hc => ?_) (fun hc => ?_)
      · rw [if_neg hc] at h
        refine z_aload_n v0 dX12_chain_79 rfl rfl ?_
        refine z_iload_n v1 dX12_chain_80 rfl rfl ?_
        refine z_iload v6 dX12_chain_81 rfl ?_
        refine zq_VI (N := MX12_over) (As := [.int v1, .int v6]) m_X12_97 dX12_chain_83 rfl rfl (Nat.le_of_ble_eq_true rfl) h (fun x6 w5 h => ?_)
        refine z_istore (i := 4) dX12_chain_86 (by decide) rfl ?_
        refine z_iinc (i := 3) v3 (v3 - 1) dX12_chain_88 rfl (zdec _) (by decide) rfl ?_
        refine z_iinc (i := 5) v5 (v5 + 1) dX12_chain_91 rfl rfl (by decide) rfl ?_
        refine z_goto 35 dX12_chain_94 rfl ?_
        exact zRn.weak h (zLe_of [true, true, true, true, true, true, false] (And.intro rfl (And.intro rfl (And.intro rfl (And.intro rfl (And.intro rfl (And.intro rfl (And.intro rfl (trivial)))))))))
      · rw [if_pos hc] at h
        refine z_iload v6 dX12_chain_76 rfl ?_
        exact z_ireturn .int dX12_chain_78 rfl rfl h
    · rw [if_neg hc] at h
      exact h
set_option maxRecDepth 100000 in
set_option maxHeartbeats 4000000 in
theorem bX12_chain_64 {X : zX} {d kc ks : Nat} {w : zW} {Q : Option Value → zW → Prop} (v0 : Nat) (v1 : Int32) (v2 : Int32) (v3 : Int32) (v4 : Int32) (v5 : Int32) (v6 : Int32)
    (h : zRn X d kc ks MX12_chain 42 [some (.ref v0), some (.int v1), some (.int v2), some (.int v3), some (.int v4), some (.int v5), some (.int (v6 + 1))] [] w Q) :
    zRn X d kc ks MX12_chain 64 [some (.ref v0), some (.int v1), some (.int v2), some (.int v3), some (.int v4), some (.int v5), some (.int v6)] [] w Q := by
  refine z_iinc (i := 6) v6 (v6 + 1) dX12_chain_64 rfl rfl (by decide) rfl ?_
  refine z_goto 42 dX12_chain_67 rfl ?_
  exact h
theorem eX12_chain {X : zX} {d kc ks : Nat} {w : zW} {Q : Option Value → zW → Prop} (p0 : Nat) (a1 : Int32) (a2 : Int32) (h : zRn X d kc ks MX12_chain 0 [some (.ref p0), some (.int a1), some (.int a2), none, none, none, none] [] w Q) : zEv X d kc ks MX12_chain [.ref p0, .int a1, .int a2] w Q :=
  zEv.of (by decide) (Nat.le_of_ble_eq_true rfl) (Or.inr (by simp [Value.category])) h
set_option maxRecDepth 100000 in
set_option maxHeartbeats 4000000 in
theorem bX12_height_0 {X : zX} {d kc ks : Nat} {w : zW} {Q : Option Value → zW → Prop} (p0 : Nat) (a1 : Int32)
    (h : zRn X d kc ks MX12_height 4 [some (.ref p0), some (.int a1), some (.int 0), some (.int 0)] [] w Q) :
    zRn X d kc ks MX12_height 0 [some (.ref p0), some (.int a1), none, none] [] w Q := by
  refine z_iconst 0 dX12_height_0 rfl ?_
  refine z_istore_n (i := 2) dX12_height_1 rfl (by decide) rfl ?_
  refine z_iconst 0 dX12_height_2 rfl ?_
  refine z_istore_n (i := 3) dX12_height_3 rfl (by decide) rfl ?_
  exact h
set_option maxRecDepth 100000 in
set_option maxHeartbeats 4000000 in
theorem bX12_height_4 {X : zX} {d kc ks : Nat} {w : zW} {Q : Option Value → zW → Prop} (v0 : Nat) (v1 : Int32) (v2 : Int32) (v3 : Int32)
    (h : zIs w v0 11 ∧ zCallI X d MX12_many [.ref v0, .int v1] w (fun x2 w1 => if x2 ≤ v3 then (Q (some (.int v2)) w1) else (zIs w1 v0 11 ∧ zCallI X d MX12_deepOf [.ref v0, .int v1, .int v3, .int 1] w1 (fun x4 w3 => 0 < d ∧ (zRn X d kc ks MX12_height 4 [some (.ref v0), some (.int v1), some (.int (if v2 < x4 then x4 else v2)), some (.int (v3 + 1))] [] w3 Q))))) :
    zRn X d kc ks MX12_height 4 [some (.ref v0), some (.int v1), some (.int v2), some (.int v3)] [] w Q := by
  refine z_iload_n v3 dX12_height_4 rfl rfl ?_
  refine z_aload_n v0 dX12_height_5 rfl rfl ?_
  refine z_iload_n v1 dX12_height_6 rfl rfl ?_
  refine zq_VI (N := MX12_many) (As := [.int v1]) m_X12_76 dX12_height_7 rfl rfl (Nat.le_of_ble_eq_true rfl) h (fun x2 w1 h => ?_)
  refine z_icmp_ge 31 dX12_height_10 rfl (fun hc => ?_) (fun hc => ?_)
  · rw [if_pos hc] at h
    refine z_iload_n v2 dX12_height_31 rfl rfl ?_
    exact z_ireturn .int dX12_height_32 rfl rfl h
  · rw [if_neg hc] at h
    refine z_iload_n v2 dX12_height_13 rfl rfl ?_
    refine z_aload_n v0 dX12_height_14 rfl rfl ?_
    refine z_iload_n v1 dX12_height_15 rfl rfl ?_
    refine z_iload_n v3 dX12_height_16 rfl rfl ?_
    refine z_iconst 1 dX12_height_17 rfl ?_
    refine zq_VI (N := MX12_deepOf) (As := [.int v1, .int v3, .int 1]) m_X12_208 dX12_height_18 rfl rfl (Nat.le_of_ble_eq_true rfl) h (fun x4 w3 h => ?_)
    refine z_mmax g_1455 g_191 g_106 g_192 dX12_height_21 (Nat.le_of_ble_eq_true rfl) h.1 ?_
    have h := h.2
    refine z_istore_n (i := 2) dX12_height_24 rfl (by decide) rfl ?_
    refine z_iinc (i := 3) v3 (v3 + 1) dX12_height_25 rfl rfl (by decide) rfl ?_
    refine z_goto 4 dX12_height_28 rfl ?_
    exact h
theorem eX12_height {X : zX} {d kc ks : Nat} {w : zW} {Q : Option Value → zW → Prop} (p0 : Nat) (a1 : Int32) (h : zRn X d kc ks MX12_height 0 [some (.ref p0), some (.int a1), none, none] [] w Q) : zEv X d kc ks MX12_height [.ref p0, .int a1] w Q :=
  zEv.of (by decide) (Nat.le_of_ble_eq_true rfl) (Or.inr (by simp [Value.category])) h
set_option maxRecDepth 100000 in
set_option maxHeartbeats 4000000 in
theorem bX12_anti_0 {X : zX} {d kc ks : Nat} {w : zW} {Q : Option Value → zW → Prop} (p0 : Nat) (a1 : Int32)
    (h : zIs w p0 11 ∧ zCallI X d MX12_isOrder [.ref p0, .int a1] w (fun x2 w1 => if x2 = 0 then (Q (some (.int (-2))) w1) else (zIs w1 p0 11 ∧ zCallI X d MX12_antiOf [.ref p0, .int a1] w1 (fun x4 w3 => Q (some (.int x4)) w3)))) :
    zRn X d kc ks MX12_anti 0 [some (.ref p0), some (.int a1)] [] w Q := by
  refine z_aload_n p0 dX12_anti_0 rfl rfl ?_
  refine z_iload_n a1 dX12_anti_1 rfl rfl ?_
  refine zq_VI (N := MX12_isOrder) (As := [.int a1]) m_X12_80 dX12_anti_2 rfl rfl (Nat.le_of_ble_eq_true rfl) h (fun x2 w1 h => ?_)
  refine z_if_eq 16 dX12_anti_5 rfl (fun hc => ?_) (fun hc => ?_)
  · rw [if_pos hc] at h
    refine z_bipush (-2) dX12_anti_16 rfl ?_
    exact z_ireturn .int dX12_anti_18 rfl rfl h
  · rw [if_neg hc] at h
    refine z_aload_n p0 dX12_anti_8 rfl rfl ?_
    refine z_iload_n a1 dX12_anti_9 rfl rfl ?_
    refine zq_VI (N := MX12_antiOf) (As := [.int a1]) m_X12_224 dX12_anti_10 rfl rfl (Nat.le_of_ble_eq_true rfl) h (fun x4 w3 h => ?_)
    refine z_goto 18 dX12_anti_13 rfl ?_
    exact z_ireturn .int dX12_anti_18 rfl rfl h
theorem eX12_anti {X : zX} {d kc ks : Nat} {w : zW} {Q : Option Value → zW → Prop} (p0 : Nat) (a1 : Int32) (h : zRn X d kc ks MX12_anti 0 [some (.ref p0), some (.int a1)] [] w Q) : zEv X d kc ks MX12_anti [.ref p0, .int a1] w Q :=
  zEv.of (by decide) (Nat.le_of_ble_eq_true rfl) (Or.inr (by simp [Value.category])) h
set_option maxRecDepth 100000 in
set_option maxHeartbeats 4000000 in
theorem bX12_antiOf_0 {X : zX} {d kc ks : Nat} {w : zW} {Q : Option Value → zW → Prop} (p0 : Nat) (a1 : Int32)
    (h : zRn X d kc ks MX12_antiOf 4 [some (.ref p0), some (.int a1), some (.int 0), some (.int 1)] [] w Q) :
    zRn X d kc ks MX12_antiOf 0 [some (.ref p0), some (.int a1), none, none] [] w Q := by
  refine z_iconst 0 dX12_antiOf_0 rfl ?_
  refine z_istore_n (i := 2) dX12_antiOf_1 rfl (by decide) rfl ?_
  refine z_iconst 1 dX12_antiOf_2 rfl ?_
  refine z_istore_n (i := 3) dX12_antiOf_3 rfl (by decide) rfl ?_
  exact h
set_option maxRecDepth 100000 in
set_option maxHeartbeats 4000000 in
theorem bX12_antiOf_4 {X : zX} {d kc ks : Nat} {w : zW} {Q : Option Value → zW → Prop} (v0 : Nat) (v1 : Int32) (v2 : Int32) (v3 : Int32)
    (h : zIs w v0 11 ∧ zCallI X d MX12_many [.ref v0, .int v1] w (fun x2 w1 => if ((1 : Int32) <<< (x2 &&& 31)) ≤ v3 then (Q (some (.int v2)) w1) else (zCallI X d MX12_ones [.int v3] w1 (fun x4 w3 => zCallI X d MX12_ones [.int v2] w3 (fun x6 w5 => if x4 ≤ x6 then (zRn X d kc ks MX12_antiOf 39 [some (.ref v0), some (.int v1), some (.int v2), some (.int v3)] [] w5 Q) else (zIs w5 v0 11 ∧ zCallI X d MX12_isAnti [.ref v0, .int v1, .int v3] w5 (fun x8 w7 => if x8 = 0 then (zRn X d kc ks MX12_antiOf 39 [some (.ref v0), some (.int v1), some (.int v2), some (.int v3)] [] w7 Q) else (zRn X d kc ks MX12_antiOf 40 [some (.ref v0), some (.int v1), none, some (.int v3)] [.int v3] w7 Q)))))))) :
    zRn X d kc ks MX12_antiOf 4 [some (.ref v0), some (.int v1), some (.int v2), some (.int v3)] [] w Q := by
  refine z_iload_n v3 dX12_antiOf_4 rfl rfl ?_
  refine z_iconst 1 dX12_antiOf_5 rfl ?_
  refine z_aload_n v0 dX12_antiOf_6 rfl rfl ?_
  refine z_iload_n v1 dX12_antiOf_7 rfl rfl ?_
  refine zq_VI (N := MX12_many) (As := [.int v1]) m_X12_76 dX12_antiOf_8 rfl rfl (Nat.le_of_ble_eq_true rfl) h (fun x2 w1 h => ?_)
  refine z_ishl dX12_antiOf_11 ?_
  refine z_icmp_ge 47 dX12_antiOf_12 rfl (fun hc => ?_) (fun hc => ?_)
  · rw [if_pos hc] at h
    refine z_iload_n v2 dX12_antiOf_47 rfl rfl ?_
    exact z_ireturn .int dX12_antiOf_48 rfl rfl h
  · rw [if_neg hc] at h
    refine z_iload_n v3 dX12_antiOf_15 rfl rfl ?_
    refine zq_SI (N := MX12_ones) (As := [.int v3]) m_X12_100 dX12_antiOf_16 rfl rfl (Nat.le_of_ble_eq_true rfl) h (fun x4 w3 h => ?_)
    refine z_iload_n v2 dX12_antiOf_19 rfl rfl ?_
    refine zq_SI (N := MX12_ones) (As := [.int v2]) m_X12_100 dX12_antiOf_20 rfl rfl (Nat.le_of_ble_eq_true rfl) h (fun x6 w5 h => ?_)
    refine z_icmp_le 39 dX12_antiOf_23 rfl (fun hc => ?_) (fun hc => ?_)
    · rw [if_pos hc] at h
      exact h
    · rw [if_neg hc] at h
      refine z_aload_n v0 dX12_antiOf_26 rfl rfl ?_
      refine z_iload_n v1 dX12_antiOf_27 rfl rfl ?_
      refine z_iload_n v3 dX12_antiOf_28 rfl rfl ?_
      refine zq_VI (N := MX12_isAnti) (As := [.int v1, .int v3]) m_X12_221 dX12_antiOf_29 rfl rfl (Nat.le_of_ble_eq_true rfl) h (fun x8 w7 h => ?_)
      refine z_if_eq 39 dX12_antiOf_32 rfl (fun hc => ?_) (fun hc => ?_)
      · rw [if_pos hc] at h
        exact h
      · rw [if_neg hc] at h
        refine z_iload_n v3 dX12_antiOf_35 rfl rfl ?_
        refine z_goto 40 dX12_antiOf_36 rfl ?_
        exact zRn.weak h (zLe_of [true, true, false, true] (And.intro rfl (And.intro rfl (And.intro rfl (And.intro rfl (trivial))))))
set_option maxRecDepth 100000 in
set_option maxHeartbeats 4000000 in
theorem bX12_antiOf_39 {X : zX} {d kc ks : Nat} {w : zW} {Q : Option Value → zW → Prop} (v0 : Nat) (v1 : Int32) (v2 : Int32) (v3 : Int32)
    (h : zRn X d kc ks MX12_antiOf 40 [some (.ref v0), some (.int v1), none, some (.int v3)] [.int v2] w Q) :
    zRn X d kc ks MX12_antiOf 39 [some (.ref v0), some (.int v1), some (.int v2), some (.int v3)] [] w Q := by
  refine z_iload_n v2 dX12_antiOf_39 rfl rfl ?_
  exact zRn.weak h (zLe_of [true, true, false, true] (And.intro rfl (And.intro rfl (And.intro rfl (And.intro rfl (trivial))))))
set_option maxRecDepth 100000 in
set_option maxHeartbeats 4000000 in
theorem bX12_antiOf_40 {X : zX} {d kc ks : Nat} {w : zW} {Q : Option Value → zW → Prop} (v0 : Nat) (v1 : Int32) (v3 : Int32) (u0 : Int32)
    (h : zRn X d kc ks MX12_antiOf 4 [some (.ref v0), some (.int v1), some (.int u0), some (.int (v3 + 1))] [] w Q) :
    zRn X d kc ks MX12_antiOf 40 [some (.ref v0), some (.int v1), none, some (.int v3)] [.int u0] w Q := by
  refine z_istore_n (i := 2) dX12_antiOf_40 rfl (by decide) rfl ?_
  refine z_iinc (i := 3) v3 (v3 + 1) dX12_antiOf_41 rfl rfl (by decide) rfl ?_
  refine z_goto 4 dX12_antiOf_44 rfl ?_
  exact h
theorem eX12_antiOf {X : zX} {d kc ks : Nat} {w : zW} {Q : Option Value → zW → Prop} (p0 : Nat) (a1 : Int32) (h : zRn X d kc ks MX12_antiOf 0 [some (.ref p0), some (.int a1), none, none] [] w Q) : zEv X d kc ks MX12_antiOf [.ref p0, .int a1] w Q :=
  zEv.of (by decide) (Nat.le_of_ble_eq_true rfl) (Or.inr (by simp [Value.category])) h
set_option maxRecDepth 100000 in
set_option maxHeartbeats 4000000 in
theorem bX12_isAnti_0 {X : zX} {d kc ks : Nat} {w : zW} {Q : Option Value → zW → Prop} (p0 : Nat) (a1 : Int32) (a2 : Int32)
    (h : zRn X d kc ks MX12_isAnti 2 [some (.ref p0), some (.int a1), some (.int a2), some (.int 0)] [] w Q) :
    zRn X d kc ks MX12_isAnti 0 [some (.ref p0), some (.int a1), some (.int a2), none] [] w Q := by
  refine z_iconst 0 dX12_isAnti_0 rfl ?_
  refine z_istore_n (i := 3) dX12_isAnti_1 rfl (by decide) rfl ?_
  exact h
set_option maxRecDepth 100000 in
set_option maxHeartbeats 4000000 in
theorem bX12_isAnti_2 {X : zX} {d kc ks : Nat} {w : zW} {Q : Option Value → zW → Prop} (v0 : Nat) (v1 : Int32) (v2 : Int32) (v3 : Int32)
    (h : zIs w v0 11 ∧ zCallI X d MX12_many [.ref v0, .int v1] w (fun x2 w1 => if x2 ≤ v3 then (Q (some (.int 1)) w1) else (zCallI X d MX12_has [.int v2, .int v3] w1 (fun x4 w3 => if x4 = 0 then (zRn X d kc ks MX12_isAnti 32 [some (.ref v0), some (.int v1), some (.int v2), some (.int v3)] [] w3 Q) else (zIs w3 v0 11 ∧ zCallI X d MX12_under [.ref v0, .int v1, .int v3] w3 (fun x6 w5 => if (x6 &&& v2) = 0 then (zRn X d kc ks MX12_isAnti 32 [some (.ref v0), some (.int v1), some (.int v2), some (.int v3)] [] w5 Q) else (Q (some (.int 0)) w5))))))) :
    zRn X d kc ks MX12_isAnti 2 [some (.ref v0), some (.int v1), some (.int v2), some (.int v3)] [] w Q := by
  refine z_iload_n v3 dX12_isAnti_2 rfl rfl ?_
  refine z_aload_n v0 dX12_isAnti_3 rfl rfl ?_
  refine z_iload_n v1 dX12_isAnti_4 rfl rfl ?_
  refine zq_VI (N := MX12_many) (As := [.int v1]) m_X12_76 dX12_isAnti_5 rfl rfl (Nat.le_of_ble_eq_true rfl) h (fun x2 w1 h => ?_)
  refine z_icmp_ge 38 dX12_isAnti_8 rfl (fun hc => ?_) (fun hc => ?_)
  · rw [if_pos hc] at h
    refine z_iconst 1 dX12_isAnti_38 rfl ?_
    exact z_ireturn .boolean dX12_isAnti_39 rfl rfl h
  · rw [if_neg hc] at h
    refine z_iload_n v2 dX12_isAnti_11 rfl rfl ?_
    refine z_iload_n v3 dX12_isAnti_12 rfl rfl ?_
    refine zq_SI (N := MX12_has) (As := [.int v2, .int v3]) m_X12_89 dX12_isAnti_13 rfl rfl (Nat.le_of_ble_eq_true rfl) h (fun x4 w3 h => ?_)
    refine z_if_eq 32 dX12_isAnti_16 rfl (fun hc => ?_) (fun hc => ?_)
    · rw [if_pos hc] at h
      exact h
    · rw [if_neg hc] at h
      refine z_aload_n v0 dX12_isAnti_19 rfl rfl ?_
      refine z_iload_n v1 dX12_isAnti_20 rfl rfl ?_
      refine z_iload_n v3 dX12_isAnti_21 rfl rfl ?_
      refine zq_VI (N := MX12_under) (As := [.int v1, .int v3]) m_X12_86 dX12_isAnti_22 rfl rfl (Nat.le_of_ble_eq_true rfl) h (fun x6 w5 h => ?_)
      refine z_iload_n v2 dX12_isAnti_25 rfl rfl ?_
      refine z_iand dX12_isAnti_26 ?_
      refine z_if_eq 32 dX12_isAnti_27 rfl (fun hc => ?_) (fun hc => ?_)
      · rw [if_pos hc] at h
        exact h
      · rw [if_neg hc] at h
        refine z_iconst 0 dX12_isAnti_30 rfl ?_
        exact z_ireturn .boolean dX12_isAnti_31 rfl rfl h
set_option maxRecDepth 100000 in
set_option maxHeartbeats 4000000 in
theorem bX12_isAnti_32 {X : zX} {d kc ks : Nat} {w : zW} {Q : Option Value → zW → Prop} (v0 : Nat) (v1 : Int32) (v2 : Int32) (v3 : Int32)
    (h : zRn X d kc ks MX12_isAnti 2 [some (.ref v0), some (.int v1), some (.int v2), some (.int (v3 + 1))] [] w Q) :
    zRn X d kc ks MX12_isAnti 32 [some (.ref v0), some (.int v1), some (.int v2), some (.int v3)] [] w Q := by
  refine z_iinc (i := 3) v3 (v3 + 1) dX12_isAnti_32 rfl rfl (by decide) rfl ?_
  refine z_goto 2 dX12_isAnti_35 rfl ?_
  exact h
theorem eX12_isAnti {X : zX} {d kc ks : Nat} {w : zW} {Q : Option Value → zW → Prop} (p0 : Nat) (a1 : Int32) (a2 : Int32) (h : zRn X d kc ks MX12_isAnti 0 [some (.ref p0), some (.int a1), some (.int a2), none] [] w Q) : zEv X d kc ks MX12_isAnti [.ref p0, .int a1, .int a2] w Q :=
  zEv.of (by decide) (Nat.le_of_ble_eq_true rfl) (Or.inr (by simp [Value.category])) h
set_option maxRecDepth 100000 in
set_option maxHeartbeats 4000000 in
theorem bX12_part_0 {X : zX} {d kc ks : Nat} {w : zW} {Q : Option Value → zW → Prop} (p0 : Nat) (a1 : Int32) (a2 : Int32)
    (h : zIs w p0 11 ∧ zCallI X d MX12_isThing [.ref p0, .int a1, .int a2] w (fun x2 w1 => if x2 = 0 then (Q (some (.int (-2))) w1) else (zIs w1 p0 11 ∧ zCallI X d MX12_antiOf [.ref p0, .int a1] w1 (fun x4 w3 => zCallI X d MX12_ones [.int x4] w3 (fun x6 w5 => zIs w5 p0 11 ∧ zCallI X d MX12_parts [.ref p0, .int a1, .int 0, .int 0, .int x6] w5 (fun x8 w7 => ∃ r9, zfR w7 p0 11 13 = some r9 ∧ (∃ x10, zaI w7 r9 a2 = some x10 ∧ (Q (some (.int x10)) w7)))))))) :
    zRn X d kc ks MX12_part 0 [some (.ref p0), some (.int a1), some (.int a2), none] [] w Q := by
  refine z_aload_n p0 dX12_part_0 rfl rfl ?_
  refine z_iload_n a1 dX12_part_1 rfl rfl ?_
  refine z_iload_n a2 dX12_part_2 rfl rfl ?_
  refine zq_VI (N := MX12_isThing) (As := [.int a1, .int a2]) m_X12_215 dX12_part_3 rfl rfl (Nat.le_of_ble_eq_true rfl) h (fun x2 w1 h => ?_)
  refine z_if_ne 12 dX12_part_6 rfl (fun hc => ?_) (fun hc => ?_)
  · rw [if_neg hc] at h
    refine z_aload_n p0 dX12_part_12 rfl rfl ?_
    refine z_iload_n a1 dX12_part_13 rfl rfl ?_
    refine z_iconst 0 dX12_part_14 rfl ?_
    refine z_iconst 0 dX12_part_15 rfl ?_
    refine z_aload_n p0 dX12_part_16 rfl rfl ?_
    refine z_iload_n a1 dX12_part_17 rfl rfl ?_
    refine zq_VI (N := MX12_antiOf) (As := [.int a1]) m_X12_224 dX12_part_18 rfl rfl (Nat.le_of_ble_eq_true rfl) h (fun x4 w3 h => ?_)
    refine zq_SI (N := MX12_ones) (As := [.int x4]) m_X12_100 dX12_part_21 rfl rfl (Nat.le_of_ble_eq_true rfl) h (fun x6 w5 h => ?_)
    refine zq_VI (N := MX12_parts) (As := [.int a1, .int 0, .int 0, .int x6]) m_X12_230 dX12_part_24 rfl rfl (Nat.le_of_ble_eq_true rfl) h (fun x8 w7 h => ?_)
    refine z_istore_n (i := 3) dX12_part_27 rfl (by decide) rfl ?_
    refine z_aload_n p0 dX12_part_28 rfl rfl ?_
    obtain ⟨r9, e, h⟩ := h
    refine zq_fR f_X12_26 dX12_part_29 e ?_
    refine z_iload_n a2 dX12_part_32 rfl rfl ?_
    obtain ⟨x10, e, h⟩ := h
    refine zq_aI dX12_part_33 e ?_
    exact z_ireturn .int dX12_part_34 rfl rfl h
  · rw [if_pos hc] at h
    refine z_bipush (-2) dX12_part_9 rfl ?_
    exact z_ireturn .int dX12_part_11 rfl rfl h
theorem eX12_part {X : zX} {d kc ks : Nat} {w : zW} {Q : Option Value → zW → Prop} (p0 : Nat) (a1 : Int32) (a2 : Int32) (h : zRn X d kc ks MX12_part 0 [some (.ref p0), some (.int a1), some (.int a2), none] [] w Q) : zEv X d kc ks MX12_part [.ref p0, .int a1, .int a2] w Q :=
  zEv.of (by decide) (Nat.le_of_ble_eq_true rfl) (Or.inr (by simp [Value.category])) h
set_option maxRecDepth 100000 in
set_option maxHeartbeats 4000000 in
theorem bX12_parts_0 {X : zX} {d kc ks : Nat} {w : zW} {Q : Option Value → zW → Prop} (p0 : Nat) (a1 : Int32) (a2 : Int32) (a3 : Int32) (a4 : Int32)
    (h : zIs w p0 11 ∧ zCallI X d MX12_many [.ref p0, .int a1] w (fun x2 w1 => if a2 = x2 then (Q (some (.int 1)) w1) else (zRn X d kc ks MX12_parts 14 [some (.ref p0), some (.int a1), some (.int a2), some (.int a3), some (.int a4), some (.int 0), none, none] [] w1 Q))) :
    zRn X d kc ks MX12_parts 0 [some (.ref p0), some (.int a1), some (.int a2), some (.int a3), some (.int a4), none, none, none] [] w Q := by
  refine z_iload_n a2 dX12_parts_0 rfl rfl ?_
  refine z_aload_n p0 dX12_parts_1 rfl rfl ?_
  refine z_iload_n a1 dX12_parts_2 rfl rfl ?_
  refine zq_VI (N := MX12_many) (As := [.int a1]) m_X12_76 dX12_parts_3 rfl rfl (Nat.le_of_ble_eq_true rfl) h (fun x2 w1 h => ?_)
  refine z_icmp_ne 11 dX12_parts_6 rfl (fun hc => ?_) (fun hc => ?_)
  · rw [if_neg hc] at h
    refine z_iconst 0 dX12_parts_11 rfl ?_
    refine z_istore (i := 5) dX12_parts_12 (by decide) rfl ?_
    exact h
  · rw [if_pos hc] at h
    refine z_iconst 1 dX12_parts_9 rfl ?_
    exact z_ireturn .boolean dX12_parts_10 rfl rfl h
set_option maxRecDepth 100000 in
set_option maxHeartbeats 4000000 in
theorem bX12_parts_14 {X : zX} {d kc ks : Nat} {w : zW} {Q : Option Value → zW → Prop} (v0 : Nat) (v1 : Int32) (v2 : Int32) (v3 : Int32) (v4 : Int32) (v5 : Int32)
    (h : if v3 < v5 then (Q (some (.int 0)) w) else (if v4 ≤ v5 then (Q (some (.int 0)) w) else (zRn X d kc ks MX12_parts 33 [some (.ref v0), some (.int v1), some (.int v2), some (.int v3), some (.int v4), some (.int v5), some (.int 1), some (.int 0)] [] w Q))) :
    zRn X d kc ks MX12_parts 14 [some (.ref v0), some (.int v1), some (.int v2), some (.int v3), some (.int v4), some (.int v5), none, none] [] w Q := by
  refine z_iload v5 dX12_parts_14 rfl ?_
  refine z_iload_n v3 dX12_parts_16 rfl rfl ?_
  refine z_icmp_gt 127 dX12_parts_17 rfl (fun hc => ?_) (fun hc => ?_)
  · rw [if_pos hc] at h
    refine z_iconst 0 dX12_parts_127 rfl ?_
    exact z_ireturn .boolean dX12_parts_128 rfl rfl h
  · rw [if_neg hc] at h
    refine z_iload v5 dX12_parts_20 rfl ?_
    refine z_iload v4 dX12_parts_22 rfl ?_
    refine z_icmp_ge 127 dX12_parts_24 rfl (fun hc => ?_) (fun hc => ?_)
    · rw [if_pos hc] at h
      refine z_iconst 0 dX12_parts_127 rfl ?_
      exact z_ireturn .boolean dX12_parts_128 rfl rfl h
    · rw [if_neg hc] at h
      refine z_iconst 1 dX12_parts_27 rfl ?_
      refine z_istore (i := 6) dX12_parts_28 (by decide) rfl ?_
      refine z_iconst 0 dX12_parts_30 rfl ?_
      refine z_istore (i := 7) dX12_parts_31 (by decide) rfl ?_
      exact h
set_option maxRecDepth 100000 in
set_option maxHeartbeats 4000000 in
theorem bX12_parts_33 {X : zX} {d kc ks : Nat} {w : zW} {Q : Option Value → zW → Prop} (v0 : Nat) (v1 : Int32) (v2 : Int32) (v3 : Int32) (v4 : Int32) (v5 : Int32) (v6 : Int32) (v7 : Int32)
    (h : if v2 ≤ v7 then (∃ r1, zfR w v0 11 13 = some r1 ∧ (∃ w2, zsI w r1 v2 v5 = some w2 ∧ (if v6 = 0 then (zRn X d kc ks MX12_parts 121 [some (.ref v0), some (.int v1), some (.int v2), some (.int v3), some (.int v4), some (.int v5), none, none] [] w2 Q) else (if v5 = v3 then (zRn X d kc ks MX12_parts 111 [some (.ref v0), some (.int v1), some (.int v2), some (.int v3), some (.int v4), some (.int v5), none, none] [.int (v3 + 1), .int (v2 + 1), .int v1, .ref v0] w2 Q) else (zRn X d kc ks MX12_parts 111 [some (.ref v0), some (.int v1), some (.int v2), some (.int v3), some (.int v4), some (.int v5), none, none] [.int v3, .int (v2 + 1), .int v1, .ref v0] w2 Q))))) else (if v6 = 0 then (zRn X d kc ks MX12_parts 71 [some (.ref v0), some (.int v1), some (.int v2), some (.int v3), some (.int v4), some (.int v5), none, some (.int v7)] [] w Q) else (∃ r3, zfR w v0 11 13 = some r3 ∧ (∃ x4, zaI w r3 v7 = some x4 ∧ (if x4 = v5 then (zIs w v0 11 ∧ zCallI X d MX12_areFree [.ref v0, .int v1, .int v2, .int v7] w (fun x6 w5 => if x6 = 0 then (zRn X d kc ks MX12_parts 67 [some (.ref v0), some (.int v1), some (.int v2), some (.int v3), some (.int v4), some (.int v5), none, some (.int v7)] [] w5 Q) else (zRn X d kc ks MX12_parts 71 [some (.ref v0), some (.int v1), some (.int v2), some (.int v3), some (.int v4), some (.int v5), none, some (.int v7)] [] w5 Q))) else (zRn X d kc ks MX12_parts 67 [some (.ref v0), some (.int v1), some (.int v2), some (.int v3), some (.int v4), some (.int v5), none, some (.int v7)] [] w Q)))))) :
    zRn X d kc ks MX12_parts 33 [some (.ref v0), some (.int v1), some (.int v2), some (.int v3), some (.int v4), some (.int v5), some (.int v6), some (.int v7)] [] w Q := by
  refine z_iload v7 dX12_parts_33 rfl ?_
  refine z_iload_n v2 dX12_parts_35 rfl rfl ?_
  refine z_icmp_ge 80 dX12_parts_36 rfl (fun hc => ?_) (fun hc => ?_)
  · rw [if_pos hc] at h
    refine z_aload_n v0 dX12_parts_80 rfl rfl ?_
    obtain ⟨r1, e, h⟩ := h
    refine zq_fR f_X12_26 dX12_parts_81 e ?_
    refine z_iload_n v2 dX12_parts_84 rfl rfl ?_
    refine z_iload v5 dX12_parts_85 rfl ?_
    obtain ⟨w2, e, h⟩ := h
    refine zq_sI dX12_parts_87 e ?_
    refine z_iload v6 dX12_parts_88 rfl ?_
    refine z_if_eq 121 dX12_parts_90 rfl (fun hc => ?_) (fun hc => ?_)
    · rw [if_pos hc] at h
      exact zRn.weak h (zLe_of [true, true, true, true, true, true, false, false] (And.intro rfl (And.intro rfl (And.intro rfl (And.intro rfl (And.intro rfl (And.intro rfl (And.intro rfl (And.intro rfl (trivial))))))))))
    · rw [if_neg hc] at h
      refine z_aload_n v0 dX12_parts_93 rfl rfl ?_
      refine z_iload_n v1 dX12_parts_94 rfl rfl ?_
      refine z_iload_n v2 dX12_parts_95 rfl rfl ?_
      refine z_iconst 1 dX12_parts_96 rfl ?_
      refine z_iadd dX12_parts_97 ?_
      refine z_iload v5 dX12_parts_98 rfl ?_
      refine z_iload_n v3 dX12_parts_100 rfl rfl ?_
      refine z_icmp_ne 110 dX12_parts_101 rfl (fun hc => ?_) (fun hc => ?_)
      · rw [if_neg hc] at h
        refine z_iload_n v3 dX12_parts_110 rfl rfl ?_
        exact zRn.weak h (zLe_of [true, true, true, true, true, true, false, false] (And.intro rfl (And.intro rfl (And.intro rfl (And.intro rfl (And.intro rfl (And.intro rfl (And.intro rfl (And.intro rfl (trivial))))))))))
      · rw [if_pos hc] at h
        refine z_iload_n v3 dX12_parts_104 rfl rfl ?_
        refine z_iconst 1 dX12_parts_105 rfl ?_
        refine z_iadd dX12_parts_106 ?_
        refine z_goto 111 dX12_parts_107 rfl ?_
        exact zRn.weak h (zLe_of [true, true, true, true, true, true, false, false] (And.intro rfl (And.intro rfl (And.intro rfl (And.intro rfl (And.intro rfl (And.intro rfl (And.intro rfl (And.intro rfl (trivial))))))))))
  · rw [if_neg hc] at h
    refine z_iload v6 dX12_parts_39 rfl ?_
    refine z_if_eq 71 dX12_parts_41 rfl (fun hc => ?_) (fun hc => ?_)
    · rw [if_pos hc] at h
      exact zRn.weak h (zLe_of [true, true, true, true, true, true, false, true] (And.intro rfl (And.intro rfl (And.intro rfl (And.intro rfl (And.intro rfl (And.intro rfl (And.intro rfl (And.intro rfl (trivial))))))))))
    · rw [if_neg hc] at h
      refine z_aload_n v0 dX12_parts_44 rfl rfl ?_
      obtain ⟨r3, e, h⟩ := h
      refine zq_fR f_X12_26 dX12_parts_45 e ?_
      refine z_iload v7 dX12_parts_48 rfl ?_
      obtain ⟨x4, e, h⟩ := h
      refine zq_aI dX12_parts_50 e ?_
      refine z_iload v5 dX12_parts_51 rfl ?_
      refine z_icmp_ne 67 dX12_parts_53 rfl (fun hc => ?_) (fun hc => ?_)
      · rw [if_neg hc] at h
        exact zRn.weak h (zLe_of [true, true, true, true, true, true, false, true] (And.intro rfl (And.intro rfl (And.intro rfl (And.intro rfl (And.intro rfl (And.intro rfl (And.intro rfl (And.intro rfl (trivial))))))))))
      · rw [if_pos hc] at h
        refine z_aload_n v0 dX12_parts_56 rfl rfl ?_
        refine z_iload_n v1 dX12_parts_57 rfl rfl ?_
        refine z_iload_n v2 dX12_parts_58 rfl rfl ?_
        refine z_iload v7 dX12_parts_59 rfl ?_
        refine zq_VI (N := MX12_areFree) (As := [.int v1, .int v2, .int v7]) m_X12_227 dX12_parts_61 rfl rfl (Nat.le_of_ble_eq_true rfl) h (fun x6 w5 h => ?_)
        refine z_if_ne 71 dX12_parts_64 rfl (fun hc => ?_) (fun hc => ?_)
        · rw [if_neg hc] at h
          exact zRn.weak h (zLe_of [true, true, true, true, true, true, false, true] (And.intro rfl (And.intro rfl (And.intro rfl (And.intro rfl (And.intro rfl (And.intro rfl (And.intro rfl (And.intro rfl (trivial))))))))))
        · rw [if_pos hc] at h
          exact zRn.weak h (zLe_of [true, true, true, true, true, true, false, true] (And.intro rfl (And.intro rfl (And.intro rfl (And.intro rfl (And.intro rfl (And.intro rfl (And.intro rfl (And.intro rfl (trivial))))))))))
set_option maxRecDepth 100000 in
set_option maxHeartbeats 4000000 in
theorem bX12_parts_67 {X : zX} {d kc ks : Nat} {w : zW} {Q : Option Value → zW → Prop} (v0 : Nat) (v1 : Int32) (v2 : Int32) (v3 : Int32) (v4 : Int32) (v5 : Int32) (v7 : Int32)
    (h : zRn X d kc ks MX12_parts 72 [some (.ref v0), some (.int v1), some (.int v2), some (.int v3), some (.int v4), some (.int v5), none, some (.int v7)] [.int 1] w Q) :
    zRn X d kc ks MX12_parts 67 [some (.ref v0), some (.int v1), some (.int v2), some (.int v3), some (.int v4), some (.int v5), none, some (.int v7)] [] w Q := by
  refine z_iconst 1 dX12_parts_67 rfl ?_
  refine z_goto 72 dX12_parts_68 rfl ?_
  exact h
set_option maxRecDepth 100000 in
set_option maxHeartbeats 4000000 in
theorem bX12_parts_71 {X : zX} {d kc ks : Nat} {w : zW} {Q : Option Value → zW → Prop} (v0 : Nat) (v1 : Int32) (v2 : Int32) (v3 : Int32) (v4 : Int32) (v5 : Int32) (v7 : Int32)
    (h : zRn X d kc ks MX12_parts 72 [some (.ref v0), some (.int v1), some (.int v2), some (.int v3), some (.int v4), some (.int v5), none, some (.int v7)] [.int 0] w Q) :
    zRn X d kc ks MX12_parts 71 [some (.ref v0), some (.int v1), some (.int v2), some (.int v3), some (.int v4), some (.int v5), none, some (.int v7)] [] w Q := by
  refine z_iconst 0 dX12_parts_71 rfl ?_
  exact h
set_option maxRecDepth 100000 in
set_option maxHeartbeats 4000000 in
theorem bX12_parts_72 {X : zX} {d kc ks : Nat} {w : zW} {Q : Option Value → zW → Prop} (v0 : Nat) (v1 : Int32) (v2 : Int32) (v3 : Int32) (v4 : Int32) (v5 : Int32) (v7 : Int32) (u0 : Int32)
    (h : zRn X d kc ks MX12_parts 33 [some (.ref v0), some (.int v1), some (.int v2), some (.int v3), some (.int v4), some (.int v5), some (.int u0), some (.int (v7 + 1))] [] w Q) :
    zRn X d kc ks MX12_parts 72 [some (.ref v0), some (.int v1), some (.int v2), some (.int v3), some (.int v4), some (.int v5), none, some (.int v7)] [.int u0] w Q := by
  refine z_istore (i := 6) dX12_parts_72 (by decide) rfl ?_
  refine z_iinc (i := 7) v7 (v7 + 1) dX12_parts_74 rfl rfl (by decide) rfl ?_
  refine z_goto 33 dX12_parts_77 rfl ?_
  exact h
set_option maxRecDepth 100000 in
set_option maxHeartbeats 4000000 in
theorem bX12_parts_111 {X : zX} {d kc ks : Nat} {w : zW} {Q : Option Value → zW → Prop} (v0 : Nat) (v1 : Int32) (v2 : Int32) (v3 : Int32) (v4 : Int32) (v5 : Int32) (u0 : Int32) (u1 : Int32) (u2 : Int32) (u3 : Nat)
    (h : zIs w u3 11 ∧ zCallI X d MX12_parts [.ref u3, .int u2, .int u1, .int u0, .int v4] w (fun x2 w1 => if x2 = 0 then (zRn X d kc ks MX12_parts 121 [some (.ref v0), some (.int v1), some (.int v2), some (.int v3), some (.int v4), some (.int v5), none, none] [] w1 Q) else (Q (some (.int 1)) w1))) :
    zRn X d kc ks MX12_parts 111 [some (.ref v0), some (.int v1), some (.int v2), some (.int v3), some (.int v4), some (.int v5), none, none] [.int u0, .int u1, .int u2, .ref u3] w Q := by
  refine z_iload v4 dX12_parts_111 rfl ?_
  refine zq_VI (N := MX12_parts) (As := [.int u2, .int u1, .int u0, .int v4]) m_X12_230 dX12_parts_113 rfl rfl (Nat.le_of_ble_eq_true rfl) h (fun x2 w1 h => ?_)
  refine z_if_eq 121 dX12_parts_116 rfl (fun hc => ?_) (fun hc => ?_)
  · rw [if_pos hc] at h
    exact h
  · rw [if_neg hc] at h
    refine z_iconst 1 dX12_parts_119 rfl ?_
    exact z_ireturn .boolean dX12_parts_120 rfl rfl h
set_option maxRecDepth 100000 in
set_option maxHeartbeats 4000000 in
theorem bX12_parts_121 {X : zX} {d kc ks : Nat} {w : zW} {Q : Option Value → zW → Prop} (v0 : Nat) (v1 : Int32) (v2 : Int32) (v3 : Int32) (v4 : Int32) (v5 : Int32)
    (h : zRn X d kc ks MX12_parts 14 [some (.ref v0), some (.int v1), some (.int v2), some (.int v3), some (.int v4), some (.int (v5 + 1)), none, none] [] w Q) :
    zRn X d kc ks MX12_parts 121 [some (.ref v0), some (.int v1), some (.int v2), some (.int v3), some (.int v4), some (.int v5), none, none] [] w Q := by
  refine z_iinc (i := 5) v5 (v5 + 1) dX12_parts_121 rfl rfl (by decide) rfl ?_
  refine z_goto 14 dX12_parts_124 rfl ?_
  exact h
theorem eX12_parts {X : zX} {d kc ks : Nat} {w : zW} {Q : Option Value → zW → Prop} (p0 : Nat) (a1 : Int32) (a2 : Int32) (a3 : Int32) (a4 : Int32) (h : zRn X d kc ks MX12_parts 0 [some (.ref p0), some (.int a1), some (.int a2), some (.int a3), some (.int a4), none, none, none] [] w Q) : zEv X d kc ks MX12_parts [.ref p0, .int a1, .int a2, .int a3, .int a4] w Q :=
  zEv.of (by decide) (Nat.le_of_ble_eq_true rfl) (Or.inr (by simp [Value.category])) h
set_option maxRecDepth 100000 in
set_option maxHeartbeats 4000000 in
theorem bX12_areFree_0 {X : zX} {d kc ks : Nat} {w : zW} {Q : Option Value → zW → Prop} (p0 : Nat) (a1 : Int32) (a2 : Int32) (a3 : Int32)
    (h : if a2 = a3 then (Q (some (.int 0)) w) else (zIs w p0 11 ∧ zCallI X d MX12_isBelow [.ref p0, .int a1, .int a2, .int a3] w (fun x2 w1 => if x2 = 0 then (zIs w1 p0 11 ∧ zCallI X d MX12_isBelow [.ref p0, .int a1, .int a3, .int a2] w1 (fun x4 w3 => if x4 = 0 then (Q (some (.int 1)) w3) else (Q (some (.int 0)) w3))) else (Q (some (.int 0)) w1)))) :
    zRn X d kc ks MX12_areFree 0 [some (.ref p0), some (.int a1), some (.int a2), some (.int a3)] [] w Q := by
  refine z_iload_n a2 dX12_areFree_0 rfl rfl ?_
  refine z_iload_n a3 dX12_areFree_1 rfl rfl ?_
  refine z_icmp_eq 29 dX12_areFree_2 rfl (fun hc => ?_) (fun hc => ?_)
  · rw [if_pos hc] at h
    refine z_iconst 0 dX12_areFree_29 rfl ?_
    exact z_ireturn .boolean dX12_areFree_30 rfl rfl h
  · rw [if_neg hc] at h
    refine z_aload_n p0 dX12_areFree_5 rfl rfl ?_
    refine z_iload_n a1 dX12_areFree_6 rfl rfl ?_
    refine z_iload_n a2 dX12_areFree_7 rfl rfl ?_
    refine z_iload_n a3 dX12_areFree_8 rfl rfl ?_
    refine zq_VI (N := MX12_isBelow) (As := [.int a1, .int a2, .int a3]) m_X12_93 dX12_areFree_9 rfl rfl (Nat.le_of_ble_eq_true rfl) h (fun x2 w1 h => ?_)
    refine z_if_ne 29 dX12_areFree_12 rfl (fun hc => ?_) (fun hc => ?_)
    · rw [if_neg hc] at h
      refine z_iconst 0 dX12_areFree_29 rfl ?_
      exact z_ireturn .boolean dX12_areFree_30 rfl rfl h
    · rw [if_pos hc] at h
      refine z_aload_n p0 dX12_areFree_15 rfl rfl ?_
      refine z_iload_n a1 dX12_areFree_16 rfl rfl ?_
      refine z_iload_n a3 dX12_areFree_17 rfl rfl ?_
      refine z_iload_n a2 dX12_areFree_18 rfl rfl ?_
      refine zq_VI (N := MX12_isBelow) (As := [.int a1, .int a3, .int a2]) m_X12_93 dX12_areFree_19 rfl rfl (Nat.le_of_ble_eq_true rfl) h (fun x4 w3 h => ?_)
      refine z_if_ne 29 dX12_areFree_22 rfl (fun hc => ?_) (fun hc => ?_)
      · rw [if_neg hc] at h
        refine z_iconst 0 dX12_areFree_29 rfl ?_
        exact z_ireturn .boolean dX12_areFree_30 rfl rfl h
      · rw [if_pos hc] at h
        refine z_iconst 1 dX12_areFree_25 rfl ?_
        refine z_goto 30 dX12_areFree_26 rfl ?_
        exact z_ireturn .boolean dX12_areFree_30 rfl rfl h
theorem eX12_areFree {X : zX} {d kc ks : Nat} {w : zW} {Q : Option Value → zW → Prop} (p0 : Nat) (a1 : Int32) (a2 : Int32) (a3 : Int32) (h : zRn X d kc ks MX12_areFree 0 [some (.ref p0), some (.int a1), some (.int a2), some (.int a3)] [] w Q) : zEv X d kc ks MX12_areFree [.ref p0, .int a1, .int a2, .int a3] w Q :=
  zEv.of (by decide) (Nat.le_of_ble_eq_true rfl) (Or.inr (by simp [Value.category])) h
set_option maxRecDepth 100000 in
set_option maxHeartbeats 4000000 in
theorem bX12_look_0 {X : zX} {d kc ks : Nat} {w : zW} {Q : Option Value → zW → Prop} (p0 : Nat) (a1 : Int32) (a2 : Int32)
    (h : zIs w p0 11 ∧ zCallI X d MX12_isOrder [.ref p0, .int a1] w (fun x2 w1 => if x2 = 0 then (Q (some (.int (-2))) w1) else (zCallI X d MX12_in [.long ((a2 : Int32).toInt64), .long 0, .long 8] w1 (fun x4 w3 => if x4 = 0 then (Q (some (.int (-2))) w3) else (zRn X d kc ks MX12_look 34 [some (.ref p0), some (.int a1), some (.int a2), some (.int 0), some (.int 0), some (.int 0), some (.int 0), none] [] w3 Q))))) :
    zRn X d kc ks MX12_look 0 [some (.ref p0), some (.int a1), some (.int a2), none, none, none, none, none] [] w Q := by
  refine z_aload_n p0 dX12_look_0 rfl rfl ?_
  refine z_iload_n a1 dX12_look_1 rfl rfl ?_
  refine zq_VI (N := MX12_isOrder) (As := [.int a1]) m_X12_80 dX12_look_2 rfl rfl (Nat.le_of_ble_eq_true rfl) h (fun x2 w1 h => ?_)
  refine z_if_eq 20 dX12_look_5 rfl (fun hc => ?_) (fun hc => ?_)
  · rw [if_pos hc] at h
    refine z_bipush (-2) dX12_look_20 rfl ?_
    exact z_ireturn .int dX12_look_22 rfl rfl h
  · rw [if_neg hc] at h
    refine z_iload_n a2 dX12_look_8 rfl rfl ?_
    refine z_i2l dX12_look_9 ?_
    refine z_lconst 0 dX12_look_10 rfl ?_
    refine z_ldc2 8 g_1492 dX12_look_11 ?_
    refine zq_SI (N := MX12_in) (As := [.long ((a2 : Int32).toInt64), .long 0, .long 8]) m_X12_64 dX12_look_14 rfl rfl (Nat.le_of_ble_eq_true rfl) h (fun x4 w3 h => ?_)
    refine z_if_ne 23 dX12_look_17 rfl (fun hc => ?_) (fun hc => ?_)
    · rw [if_neg hc] at h
      refine z_iconst 0 dX12_look_23 rfl ?_
      refine z_istore_n (i := 3) dX12_look_24 rfl (by decide) rfl ?_
      refine z_iconst 0 dX12_look_25 rfl ?_
      refine z_istore (i := 4) dX12_look_26 (by decide) rfl ?_
      refine z_iconst 0 dX12_look_28 rfl ?_
      refine z_istore (i := 5) dX12_look_29 (by decide) rfl ?_
      refine z_iconst 0 dX12_look_31 rfl ?_
      refine z_istore (i := 6) dX12_look_32 (by decide) rfl ?_
      exact h
    · rw [if_pos hc] at h
      refine z_bipush (-2) dX12_look_20 rfl ?_
      exact z_ireturn .int dX12_look_22 rfl rfl h
set_option maxRecDepth 100000 in
set_option maxHeartbeats 4000000 in
theorem bX12_look_34 {X : zX} {d kc ks : Nat} {w : zW} {Q : Option Value → zW → Prop} (v0 : Nat) (v1 : Int32) (v2 : Int32) (v3 : Int32) (v4 : Int32) (v5 : Int32) (v6 : Int32)
    (h : zIs w v0 11 ∧ zCallI X d MX12_many [.ref v0, .int v1] w (fun x2 w1 => if x2 ≤ v6 then (zRn X d kc ks MX12_look 121 [some (.ref v0), some (.int v1), some (.int v2), some (.int v3), some (.int v4), some (.int v5), some (.int 0), none] [] w1 Q) else (zRn X d kc ks MX12_look 47 [some (.ref v0), some (.int v1), some (.int v2), some (.int v3), some (.int v4), some (.int v5), some (.int v6), some (.int 0)] [] w1 Q))) :
    zRn X d kc ks MX12_look 34 [some (.ref v0), some (.int v1), some (.int v2), some (.int v3), some (.int v4), some (.int v5), some (.int v6), none] [] w Q := by
  refine z_iload v6 dX12_look_34 rfl ?_
  refine z_aload_n v0 dX12_look_36 rfl rfl ?_
  refine z_iload_n v1 dX12_look_37 rfl rfl ?_
  refine zq_VI (N := MX12_many) (As := [.int v1]) m_X12_76 dX12_look_38 rfl rfl (Nat.le_of_ble_eq_true rfl) h (fun x2 w1 h => ?_)
  refine z_icmp_ge 118 dX12_look_41 rfl (fun hc => ?_) (fun hc => ?_)
  · rw [if_pos hc] at h
    refine z_iconst 0 dX12_look_118 rfl ?_
    refine z_istore (i := 6) dX12_look_119 (by decide) rfl ?_
    exact h
  · rw [if_neg hc] at h
    refine z_iconst 0 dX12_look_44 rfl ?_
    refine z_istore (i := 7) dX12_look_45 (by decide) rfl ?_
    exact h
set_option maxRecDepth 100000 in
set_option maxHeartbeats 4000000 in
theorem bX12_look_47 {X : zX} {d kc ks : Nat} {w : zW} {Q : Option Value → zW → Prop} (v0 : Nat) (v1 : Int32) (v2 : Int32) (v3 : Int32) (v4 : Int32) (v5 : Int32) (v6 : Int32) (v7 : Int32)
    (h : zIs w v0 11 ∧ zCallI X d MX12_many [.ref v0, .int v1] w (fun x2 w1 => if x2 ≤ v7 then (zRn X d kc ks MX12_look 34 [some (.ref v0), some (.int v1), some (.int v2), some (.int v3), some (.int v4), some (.int v5), some (.int (v6 + 1)), none] [] w1 Q) else (zIs w1 v0 11 ∧ zCallI X d MX12_isCover [.ref v0, .int v1, .int v7, .int v6] w1 (fun x4 w3 => if x4 = 0 then (zRn X d kc ks MX12_look 75 [some (.ref v0), some (.int v1), some (.int v2), none, some (.int v4), some (.int v5), some (.int v6), some (.int v7)] [.int 0, .int v3] w3 Q) else (zRn X d kc ks MX12_look 75 [some (.ref v0), some (.int v1), some (.int v2), none, some (.int v4), some (.int v5), some (.int v6), some (.int v7)] [.int 1, .int v3] w3 Q))))) :
    zRn X d kc ks MX12_look 47 [some (.ref v0), some (.int v1), some (.int v2), some (.int v3), some (.int v4), some (.int v5), some (.int v6), some (.int v7)] [] w Q := by
  refine z_iload v7 dX12_look_47 rfl ?_
  refine z_aload_n v0 dX12_look_49 rfl rfl ?_
  refine z_iload_n v1 dX12_look_50 rfl rfl ?_
  refine zq_VI (N := MX12_many) (As := [.int v1]) m_X12_76 dX12_look_51 rfl rfl (Nat.le_of_ble_eq_true rfl) h (fun x2 w1 h => ?_)
  refine z_icmp_ge 112 dX12_look_54 rfl (fun hc => ?_) (fun hc => ?_)
  · rw [if_pos hc] at h
    refine z_iinc (i := 6) v6 (v6 + 1) dX12_look_112 rfl rfl (by decide) rfl ?_
    refine z_goto 34 dX12_look_115 rfl ?_
    exact zRn.weak h (zLe_of [true, true, true, true, true, true, true, false] (And.intro rfl (And.intro rfl (And.intro rfl (And.intro rfl (And.intro rfl (And.intro rfl (And.intro rfl (And.intro rfl (trivial))))))))))
  · rw [if_neg hc] at h
    refine z_iload_n v3 dX12_look_57 rfl rfl ?_
    refine z_aload_n v0 dX12_look_58 rfl rfl ?_
    refine z_iload_n v1 dX12_look_59 rfl rfl ?_
    refine z_iload v7 dX12_look_60 rfl ?_
    refine z_iload v6 dX12_look_62 rfl ?_
    refine zq_VI (N := MX12_isCover) (As := [.int v1, .int v7, .int v6]) m_X12_236 dX12_look_64 rfl rfl (Nat.le_of_ble_eq_true rfl) h (fun x4 w3 h => ?_)
    refine z_if_eq 74 dX12_look_67 rfl (fun hc => ?_) (fun hc => ?_)
    · rw [if_pos hc] at h
      refine z_iconst 0 dX12_look_74 rfl ?_
      exact zRn.weak h (zLe_of [true, true, true, false, true, true, true, true] (And.intro rfl (And.intro rfl (And.intro rfl (And.intro rfl (And.intro rfl (And.intro rfl (And.intro rfl (And.intro rfl (trivial))))))))))
    · rw [if_neg hc] at h
      refine z_iconst 1 dX12_look_70 rfl ?_
      refine z_goto 75 dX12_look_71 rfl ?_
      exact zRn.weak h (zLe_of [true, true, true, false, true, true, true, true] (And.intro rfl (And.intro rfl (And.intro rfl (And.intro rfl (And.intro rfl (And.intro rfl (And.intro rfl (And.intro rfl (trivial))))))))))
set_option maxRecDepth 100000 in
set_option maxHeartbeats 4000000 in
theorem bX12_look_75 {X : zX} {d kc ks : Nat} {w : zW} {Q : Option Value → zW → Prop} (v0 : Nat) (v1 : Int32) (v2 : Int32) (v4 : Int32) (v5 : Int32) (v6 : Int32) (v7 : Int32) (u0 : Int32) (u1 : Int32)
    (h : if v6 ≤ v7 then (zRn X d kc ks MX12_look 102 [some (.ref v0), some (.int v1), some (.int v2), some (.int (u1 + u0)), none, some (.int v5), some (.int v6), some (.int v7)] [.int v4] w Q) else (zIs w v0 11 ∧ zCallI X d MX12_areFree [.ref v0, .int v1, .int v7, .int v6] w (fun x2 w1 => if x2 = 0 then (zRn X d kc ks MX12_look 102 [some (.ref v0), some (.int v1), some (.int v2), some (.int (u1 + u0)), none, some (.int v5), some (.int v6), some (.int v7)] [.int v4] w1 Q) else (zRn X d kc ks MX12_look 103 [some (.ref v0), some (.int v1), some (.int v2), some (.int (u1 + u0)), none, some (.int v5), some (.int v6), some (.int v7)] [.int 1, .int v4] w1 Q)))) :
    zRn X d kc ks MX12_look 75 [some (.ref v0), some (.int v1), some (.int v2), none, some (.int v4), some (.int v5), some (.int v6), some (.int v7)] [.int u0, .int u1] w Q := by
  refine z_iadd dX12_look_75 ?_
  refine z_istore_n (i := 3) dX12_look_76 rfl (by decide) rfl ?_
  refine z_iload v4 dX12_look_77 rfl ?_
  refine z_iload v7 dX12_look_79 rfl ?_
  refine z_iload v6 dX12_look_81 rfl ?_
  refine z_icmp_ge 102 dX12_look_83 rfl (fun hc => ?_) (fun hc => ?_)
  · rw [if_pos hc] at h
    exact zRn.weak h (zLe_of [true, true, true, true, false, true, true, true] (And.intro rfl (And.intro rfl (And.intro rfl (And.intro rfl (And.intro rfl (And.intro rfl (And.intro rfl (And.intro rfl (trivial))))))))))
  · rw [if_neg hc] at h
    refine z_aload_n v0 dX12_look_86 rfl rfl ?_
    refine z_iload_n v1 dX12_look_87 rfl rfl ?_
    refine z_iload v7 dX12_look_88 rfl ?_
    refine z_iload v6 dX12_look_90 rfl ?_
    refine zq_VI (N := MX12_areFree) (As := [.int v1, .int v7, .int v6]) m_X12_227 dX12_look_92 rfl rfl (Nat.le_of_ble_eq_true rfl) h (fun x2 w1 h => ?_)
    refine z_if_eq 102 dX12_look_95 rfl (fun hc => ?_) (fun hc => ?_)
    · rw [if_pos hc] at h
      exact zRn.weak h (zLe_of [true, true, true, true, false, true, true, true] (And.intro rfl (And.intro rfl (And.intro rfl (And.intro rfl (And.intro rfl (And.intro rfl (And.intro rfl (And.intro rfl (trivial))))))))))
    · rw [if_neg hc] at h
      refine z_iconst 1 dX12_look_98 rfl ?_
      refine z_goto 103 dX12_look_99 rfl ?_
      exact zRn.weak h (zLe_of [true, true, true, true, false, true, true, true] (And.intro rfl (And.intro rfl (And.intro rfl (And.intro rfl (And.intro rfl (And.intro rfl (And.intro rfl (And.intro rfl (trivial))))))))))
set_option maxRecDepth 100000 in
set_option maxHeartbeats 4000000 in
theorem bX12_look_102 {X : zX} {d kc ks : Nat} {w : zW} {Q : Option Value → zW → Prop} (v0 : Nat) (v1 : Int32) (v2 : Int32) (v3 : Int32) (v5 : Int32) (v6 : Int32) (v7 : Int32) (u0 : Int32)
    (h : zRn X d kc ks MX12_look 103 [some (.ref v0), some (.int v1), some (.int v2), some (.int v3), none, some (.int v5), some (.int v6), some (.int v7)] [.int 0, .int u0] w Q) :
    zRn X d kc ks MX12_look 102 [some (.ref v0), some (.int v1), some (.int v2), some (.int v3), none, some (.int v5), some (.int v6), some (.int v7)] [.int u0] w Q := by
  refine z_iconst 0 dX12_look_102 rfl ?_
  exact h
set_option maxRecDepth 100000 in
set_option maxHeartbeats 4000000 in
theorem bX12_look_103 {X : zX} {d kc ks : Nat} {w : zW} {Q : Option Value → zW → Prop} (v0 : Nat) (v1 : Int32) (v2 : Int32) (v3 : Int32) (v5 : Int32) (v6 : Int32) (v7 : Int32) (u0 : Int32) (u1 : Int32)
    (h : zRn X d kc ks MX12_look 47 [some (.ref v0), some (.int v1), some (.int v2), some (.int v3), some (.int (u1 + u0)), some (.int v5), some (.int v6), some (.int (v7 + 1))] [] w Q) :
    zRn X d kc ks MX12_look 103 [some (.ref v0), some (.int v1), some (.int v2), some (.int v3), none, some (.int v5), some (.int v6), some (.int v7)] [.int u0, .int u1] w Q := by
  refine z_iadd dX12_look_103 ?_
  refine z_istore (i := 4) dX12_look_104 (by decide) rfl ?_
  refine z_iinc (i := 7) v7 (v7 + 1) dX12_look_106 rfl rfl (by decide) rfl ?_
  refine z_goto 47 dX12_look_109 rfl ?_
  exact h
set_option maxRecDepth 100000 in
set_option maxHeartbeats 4000000 in
theorem bX12_look_121 {X : zX} {d kc ks : Nat} {w : zW} {Q : Option Value → zW → Prop} (v0 : Nat) (v1 : Int32) (v2 : Int32) (v3 : Int32) (v4 : Int32) (v5 : Int32) (v6 : Int32)
    (h : zIs w v0 11 ∧ zCallI X d MX12_many [.ref v0, .int v1] w (fun x2 w1 => if ((1 : Int32) <<< (x2 &&& 31)) ≤ v6 then ((v2 = 0 → (zIs w1 v0 11 ∧ zCallI X d MX12_many [.ref v0, .int v1] w1 (fun x4 w3 => Q (some (.int x4)) w3))) ∧ (v2 = 1 → (zIs w1 v0 11 ∧ zCallI X d MX12_belowMany [.ref v0, .int v1] w1 (fun x6 w5 => Q (some (.int x6)) w5))) ∧ (v2 = 2 → (Q (some (.int v3)) w1)) ∧ (v2 = 3 → (zIs w1 v0 11 ∧ zCallI X d MX12_height [.ref v0, .int v1] w1 (fun x8 w7 => Q (some (.int x8)) w7))) ∧ (v2 = 4 → (zIs w1 v0 11 ∧ zCallI X d MX12_antiOf [.ref v0, .int v1] w1 (fun x10 w9 => zCallI X d MX12_ones [.int x10] w9 (fun x12 w11 => Q (some (.int x12)) w11)))) ∧ (v2 = 5 → (Q (some (.int v4)) w1)) ∧ (v2 = 6 → (Q (some (.int v5)) w1)) ∧ (v2 = 7 → (zIs w1 v0 11 ∧ zCallI X d MX12_hangs [.ref v0, .int v1] w1 (fun x14 w13 => Q (some (.int x14)) w13))) ∧ (¬ (0 ≤ v2 ∧ v2 < 8) → (zIs w1 v0 11 ∧ zCallI X d MX12_rows [.ref v0, .int v1] w1 (fun x16 w15 => Q (some (.int x16)) w15)))) else (zIs w1 v0 11 ∧ zCallI X d MX12_isIdeal [.ref v0, .int v1, .int v6] w1 (fun x18 w17 => if x18 = 0 then (zRn X d kc ks MX12_look 150 [some (.ref v0), some (.int v1), some (.int v2), some (.int v3), some (.int v4), none, some (.int v6), none] [.int 0, .int v5] w17 Q) else (zRn X d kc ks MX12_look 150 [some (.ref v0), some (.int v1), some (.int v2), some (.int v3), some (.int v4), none, some (.int v6), none] [.int 1, .int v5] w17 Q))))) :
    zRn X d kc ks MX12_look 121 [some (.ref v0), some (.int v1), some (.int v2), some (.int v3), some (.int v4), some (.int v5), some (.int v6), none] [] w Q := by
  refine z_iload v6 dX12_look_121 rfl ?_
  refine z_iconst 1 dX12_look_123 rfl ?_
  refine z_aload_n v0 dX12_look_124 rfl rfl ?_
  refine z_iload_n v1 dX12_look_125 rfl rfl ?_
  refine zq_VI (N := MX12_many) (As := [.int v1]) m_X12_76 dX12_look_126 rfl rfl (Nat.le_of_ble_eq_true rfl) h (fun x2 w1 h => ?_)
  refine z_ishl dX12_look_129 ?_
  refine z_icmp_ge 159 dX12_look_130 rfl (fun hc => ?_) (fun hc => ?_)
  · rw [if_pos hc] at h
    refine z_iload_n v2 dX12_look_159 rfl rfl ?_
    rcases pk_ix v2 (n := 8) (by decide) with hx | hx | ⟨j, hj, hx⟩
    · refine z_tableOut 249 dX12_look_160 (zsw_lo hx) rfl ?_
      have h := h.2.2.2.2.2.2.2.2 (fun q => absurd hx (Int32.not_lt.mpr q.1))
      refine z_aload_n v0 dX12_look_249 rfl rfl ?_
      refine z_iload_n v1 dX12_look_250 rfl rfl ?_
      refine zq_VI (N := MX12_rows) (As := [.int v1]) m_X12_83 dX12_look_251 rfl rfl (Nat.le_of_ble_eq_true rfl) h (fun x16 w15 h => ?_)
      exact z_ireturn .int dX12_look_254 rfl rfl h
    · refine z_tableOut 249 dX12_look_160 (zsw_hi (n := 8) (by decide) rfl hx) rfl ?_
      have h := h.2.2.2.2.2.2.2.2 (fun q => absurd q.2 (Int32.not_lt.mpr hx))
      refine z_aload_n v0 dX12_look_249 rfl rfl ?_
      refine z_iload_n v1 dX12_look_250 rfl rfl ?_
      refine zq_VI (N := MX12_rows) (As := [.int v1]) m_X12_83 dX12_look_251 rfl rfl (Nat.le_of_ble_eq_true rfl) h (fun x16 w15 h => ?_)
      exact z_ireturn .int dX12_look_254 rfl rfl h
    · rcases (show j = 0 ∨ j = 1 ∨ j = 2 ∨ j = 3 ∨ j = 4 ∨ j = 5 ∨ j = 6 ∨ j = 7 by omega) with rfl | rfl | rfl | rfl | rfl | rfl | rfl | rfl
      · refine z_tableIn 208 dX12_look_160 (by rw [hx]; decide) (by rw [hx]; decide) (by rw [hx]; rfl) rfl ?_
        have h := h.1 hx
        refine z_aload_n v0 dX12_look_208 rfl rfl ?_
        refine z_iload_n v1 dX12_look_209 rfl rfl ?_
        refine zq_VI (N := MX12_many) (As := [.int v1]) m_X12_76 dX12_look_210 rfl rfl (Nat.le_of_ble_eq_true rfl) h (fun x4 w3 h => ?_)
        exact z_ireturn .int dX12_look_213 rfl rfl h
      · refine z_tableIn 214 dX12_look_160 (by rw [hx]; decide) (by rw [hx]; decide) (by rw [hx]; rfl) rfl ?_
        have h := h.2.1 hx
        refine z_aload_n v0 dX12_look_214 rfl rfl ?_
        refine z_iload_n v1 dX12_look_215 rfl rfl ?_
        refine zq_VI (N := MX12_belowMany) (As := [.int v1]) m_X12_199 dX12_look_216 rfl rfl (Nat.le_of_ble_eq_true rfl) h (fun x6 w5 h => ?_)
        exact z_ireturn .int dX12_look_219 rfl rfl h
      · refine z_tableIn 220 dX12_look_160 (by rw [hx]; decide) (by rw [hx]; decide) (by rw [hx]; rfl) rfl ?_
        have h := h.2.2.1 hx
        refine z_iload_n v3 dX12_look_220 rfl rfl ?_
        exact z_ireturn .int dX12_look_221 rfl rfl h
      · refine z_tableIn 222 dX12_look_160 (by rw [hx]; decide) (by rw [hx]; decide) (by rw [hx]; rfl) rfl ?_
        have h := h.2.2.2.1 hx
        refine z_aload_n v0 dX12_look_222 rfl rfl ?_
        refine z_iload_n v1 dX12_look_223 rfl rfl ?_
        refine zq_VI (N := MX12_height) (As := [.int v1]) m_X12_218 dX12_look_224 rfl rfl (Nat.le_of_ble_eq_true rfl) h (fun x8 w7 h => ?_)
        exact z_ireturn .int dX12_look_227 rfl rfl h
      · refine z_tableIn 228 dX12_look_160 (by rw [hx]; decide) (by rw [hx]; decide) (by rw [hx]; rfl) rfl ?_
        have h := h.2.2.2.2.1 hx
        refine z_aload_n v0 dX12_look_228 rfl rfl ?_
        refine z_iload_n v1 dX12_look_229 rfl rfl ?_
        refine zq_VI (N := MX12_antiOf) (As := [.int v1]) m_X12_224 dX12_look_230 rfl rfl (Nat.le_of_ble_eq_true rfl) h (fun x10 w9 h => ?_)
        refine zq_SI (N := MX12_ones) (As := [.int x10]) m_X12_100 dX12_look_233 rfl rfl (Nat.le_of_ble_eq_true rfl) h (fun x12 w11 h => ?_)
        exact z_ireturn .int dX12_look_236 rfl rfl h
      · refine z_tableIn 237 dX12_look_160 (by rw [hx]; decide) (by rw [hx]; decide) (by rw [hx]; rfl) rfl ?_
        have h := h.2.2.2.2.2.1 hx
        refine z_iload v4 dX12_look_237 rfl ?_
        exact z_ireturn .int dX12_look_239 rfl rfl h
      · refine z_tableIn 240 dX12_look_160 (by rw [hx]; decide) (by rw [hx]; decide) (by rw [hx]; rfl) rfl ?_
        have h := h.2.2.2.2.2.2.1 hx
        refine z_iload v5 dX12_look_240 rfl ?_
        exact z_ireturn .int dX12_look_242 rfl rfl h
      · refine z_tableIn 243 dX12_look_160 (by rw [hx]; decide) (by rw [hx]; decide) (by rw [hx]; rfl) rfl ?_
        have h := h.2.2.2.2.2.2.2.1 hx
        refine z_aload_n v0 dX12_look_243 rfl rfl ?_
        refine z_iload_n v1 dX12_look_244 rfl rfl ?_
        refine zq_VI (N := MX12_hangs) (As := [.int v1]) m_X12_242 dX12_look_245 rfl rfl (Nat.le_of_ble_eq_true rfl) h (fun x14 w13 h => ?_)
        exact z_ireturn .int dX12_look_248 rfl rfl h
  · rw [if_neg hc] at h
    refine z_iload v5 dX12_look_133 rfl ?_
    refine z_aload_n v0 dX12_look_135 rfl rfl ?_
    refine z_iload_n v1 dX12_look_136 rfl rfl ?_
    refine z_iload v6 dX12_look_137 rfl ?_
    refine zq_VI (N := MX12_isIdeal) (As := [.int v1, .int v6]) m_X12_239 dX12_look_139 rfl rfl (Nat.le_of_ble_eq_true rfl) h (fun x18 w17 h => ?_)
    refine z_if_eq 149 dX12_look_142 rfl (fun hc => ?_) (fun hc => ?_)
    · rw [if_pos hc] at h
      refine z_iconst 0 dX12_look_149 rfl ?_
      exact zRn.weak h (zLe_of [true, true, true, true, true, false, true, true] (And.intro rfl (And.intro rfl (And.intro rfl (And.intro rfl (And.intro rfl (And.intro rfl (And.intro rfl (And.intro rfl (trivial))))))))))
    · rw [if_neg hc] at h
      refine z_iconst 1 dX12_look_145 rfl ?_
      refine z_goto 150 dX12_look_146 rfl ?_
      exact zRn.weak h (zLe_of [true, true, true, true, true, false, true, true] (And.intro rfl (And.intro rfl (And.intro rfl (And.intro rfl (And.intro rfl (And.intro rfl (And.intro rfl (And.intro rfl (trivial))))))))))
set_option maxRecDepth 100000 in
set_option maxHeartbeats 4000000 in
theorem bX12_look_150 {X : zX} {d kc ks : Nat} {w : zW} {Q : Option Value → zW → Prop} (v0 : Nat) (v1 : Int32) (v2 : Int32) (v3 : Int32) (v4 : Int32) (v6 : Int32) (u0 : Int32) (u1 : Int32)
    (h : zRn X d kc ks MX12_look 121 [some (.ref v0), some (.int v1), some (.int v2), some (.int v3), some (.int v4), some (.int (u1 + u0)), some (.int (v6 + 1)), none] [] w Q) :
    zRn X d kc ks MX12_look 150 [some (.ref v0), some (.int v1), some (.int v2), some (.int v3), some (.int v4), none, some (.int v6), none] [.int u0, .int u1] w Q := by
  refine z_iadd dX12_look_150 ?_
  refine z_istore (i := 5) dX12_look_151 (by decide) rfl ?_
  refine z_iinc (i := 6) v6 (v6 + 1) dX12_look_153 rfl rfl (by decide) rfl ?_
  refine z_goto 121 dX12_look_156 rfl ?_
  exact h
theorem eX12_look {X : zX} {d kc ks : Nat} {w : zW} {Q : Option Value → zW → Prop} (p0 : Nat) (a1 : Int32) (a2 : Int32) (h : zRn X d kc ks MX12_look 0 [some (.ref p0), some (.int a1), some (.int a2), none, none, none, none, none] [] w Q) : zEv X d kc ks MX12_look [.ref p0, .int a1, .int a2] w Q :=
  zEv.of (by decide) (Nat.le_of_ble_eq_true rfl) (Or.inr (by simp [Value.category])) h
set_option maxRecDepth 100000 in
set_option maxHeartbeats 4000000 in
theorem bX12_isCover_0 {X : zX} {d kc ks : Nat} {w : zW} {Q : Option Value → zW → Prop} (p0 : Nat) (a1 : Int32) (a2 : Int32) (a3 : Int32)
    (h : zIs w p0 11 ∧ zCallI X d MX12_isBelow [.ref p0, .int a1, .int a2, .int a3] w (fun x2 w1 => if x2 = 0 then (Q (some (.int 0)) w1) else (zIs w1 p0 11 ∧ zCallI X d MX12_over [.ref p0, .int a1, .int a2] w1 (fun x4 w3 => zIs w3 p0 11 ∧ zCallI X d MX12_under [.ref p0, .int a1, .int a3] w3 (fun x6 w5 => if (x4 &&& x6) = 0 then (Q (some (.int 1)) w5) else (Q (some (.int 0)) w5)))))) :
    zRn X d kc ks MX12_isCover 0 [some (.ref p0), some (.int a1), some (.int a2), some (.int a3)] [] w Q := by
  refine z_aload_n p0 dX12_isCover_0 rfl rfl ?_
  refine z_iload_n a1 dX12_isCover_1 rfl rfl ?_
  refine z_iload_n a2 dX12_isCover_2 rfl rfl ?_
  refine z_iload_n a3 dX12_isCover_3 rfl rfl ?_
  refine zq_VI (N := MX12_isBelow) (As := [.int a1, .int a2, .int a3]) m_X12_93 dX12_isCover_4 rfl rfl (Nat.le_of_ble_eq_true rfl) h (fun x2 w1 h => ?_)
  refine z_if_eq 30 dX12_isCover_7 rfl (fun hc => ?_) (fun hc => ?_)
  · rw [if_pos hc] at h
    refine z_iconst 0 dX12_isCover_30 rfl ?_
    exact z_ireturn .boolean dX12_isCover_31 rfl rfl h
  · rw [if_neg hc] at h
    refine z_aload_n p0 dX12_isCover_10 rfl rfl ?_
    refine z_iload_n a1 dX12_isCover_11 rfl rfl ?_
    refine z_iload_n a2 dX12_isCover_12 rfl rfl ?_
    refine zq_VI (N := MX12_over) (As := [.int a1, .int a2]) m_X12_97 dX12_isCover_13 rfl rfl (Nat.le_of_ble_eq_true rfl) h (fun x4 w3 h => ?_)
    refine z_aload_n p0 dX12_isCover_16 rfl rfl ?_
    refine z_iload_n a1 dX12_isCover_17 rfl rfl ?_
    refine z_iload_n a3 dX12_isCover_18 rfl rfl ?_
    refine zq_VI (N := MX12_under) (As := [.int a1, .int a3]) m_X12_86 dX12_isCover_19 rfl rfl (Nat.le_of_ble_eq_true rfl) h (fun x6 w5 h => ?_)
    refine z_iand dX12_isCover_22 ?_
    refine z_if_ne 30 dX12_isCover_23 rfl (fun hc => ?_) (fun hc => ?_)
    · rw [if_neg hc] at h
      refine z_iconst 0 dX12_isCover_30 rfl ?_
      exact z_ireturn .boolean dX12_isCover_31 rfl rfl h
    · rw [if_pos hc] at h
      refine z_iconst 1 dX12_isCover_26 rfl ?_
      refine z_goto 31 dX12_isCover_27 rfl ?_
      exact z_ireturn .boolean dX12_isCover_31 rfl rfl h
theorem eX12_isCover {X : zX} {d kc ks : Nat} {w : zW} {Q : Option Value → zW → Prop} (p0 : Nat) (a1 : Int32) (a2 : Int32) (a3 : Int32) (h : zRn X d kc ks MX12_isCover 0 [some (.ref p0), some (.int a1), some (.int a2), some (.int a3)] [] w Q) : zEv X d kc ks MX12_isCover [.ref p0, .int a1, .int a2, .int a3] w Q :=
  zEv.of (by decide) (Nat.le_of_ble_eq_true rfl) (Or.inr (by simp [Value.category])) h
set_option maxRecDepth 100000 in
set_option maxHeartbeats 4000000 in
theorem bX12_isIdeal_0 {X : zX} {d kc ks : Nat} {w : zW} {Q : Option Value → zW → Prop} (p0 : Nat) (a1 : Int32) (a2 : Int32)
    (h : zRn X d kc ks MX12_isIdeal 2 [some (.ref p0), some (.int a1), some (.int a2), some (.int 0)] [] w Q) :
    zRn X d kc ks MX12_isIdeal 0 [some (.ref p0), some (.int a1), some (.int a2), none] [] w Q := by
  refine z_iconst 0 dX12_isIdeal_0 rfl ?_
  refine z_istore_n (i := 3) dX12_isIdeal_1 rfl (by decide) rfl ?_
  exact h
set_option maxRecDepth 100000 in
set_option maxHeartbeats 4000000 in
theorem bX12_isIdeal_2 {X : zX} {d kc ks : Nat} {w : zW} {Q : Option Value → zW → Prop} (v0 : Nat) (v1 : Int32) (v2 : Int32) (v3 : Int32)
    (h : zIs w v0 11 ∧ zCallI X d MX12_many [.ref v0, .int v1] w (fun x2 w1 => if x2 ≤ v3 then (Q (some (.int 1)) w1) else (zCallI X d MX12_has [.int v2, .int v3] w1 (fun x4 w3 => if x4 = 0 then (zRn X d kc ks MX12_isIdeal 34 [some (.ref v0), some (.int v1), some (.int v2), some (.int v3)] [] w3 Q) else (zIs w3 v0 11 ∧ zCallI X d MX12_under [.ref v0, .int v1, .int v3] w3 (fun x6 w5 => if (x6 &&& (v2 ^^^ (-1))) = 0 then (zRn X d kc ks MX12_isIdeal 34 [some (.ref v0), some (.int v1), some (.int v2), some (.int v3)] [] w5 Q) else (Q (some (.int 0)) w5))))))) :
    zRn X d kc ks MX12_isIdeal 2 [some (.ref v0), some (.int v1), some (.int v2), some (.int v3)] [] w Q := by
  refine z_iload_n v3 dX12_isIdeal_2 rfl rfl ?_
  refine z_aload_n v0 dX12_isIdeal_3 rfl rfl ?_
  refine z_iload_n v1 dX12_isIdeal_4 rfl rfl ?_
  refine zq_VI (N := MX12_many) (As := [.int v1]) m_X12_76 dX12_isIdeal_5 rfl rfl (Nat.le_of_ble_eq_true rfl) h (fun x2 w1 h => ?_)
  refine z_icmp_ge 40 dX12_isIdeal_8 rfl (fun hc => ?_) (fun hc => ?_)
  · rw [if_pos hc] at h
    refine z_iconst 1 dX12_isIdeal_40 rfl ?_
    exact z_ireturn .boolean dX12_isIdeal_41 rfl rfl h
  · rw [if_neg hc] at h
    refine z_iload_n v2 dX12_isIdeal_11 rfl rfl ?_
    refine z_iload_n v3 dX12_isIdeal_12 rfl rfl ?_
    refine zq_SI (N := MX12_has) (As := [.int v2, .int v3]) m_X12_89 dX12_isIdeal_13 rfl rfl (Nat.le_of_ble_eq_true rfl) h (fun x4 w3 h => ?_)
    refine z_if_eq 34 dX12_isIdeal_16 rfl (fun hc => ?_) (fun hc => ?_)
    · rw [if_pos hc] at h
      exact h
    · rw [if_neg hc] at h
      refine z_aload_n v0 dX12_isIdeal_19 rfl rfl ?_
      refine z_iload_n v1 dX12_isIdeal_20 rfl rfl ?_
      refine z_iload_n v3 dX12_isIdeal_21 rfl rfl ?_
      refine zq_VI (N := MX12_under) (As := [.int v1, .int v3]) m_X12_86 dX12_isIdeal_22 rfl rfl (Nat.le_of_ble_eq_true rfl) h (fun x6 w5 h => ?_)
      refine z_iload_n v2 dX12_isIdeal_25 rfl rfl ?_
      refine z_iconst (-1) dX12_isIdeal_26 rfl ?_
      refine z_ixor dX12_isIdeal_27 ?_
      refine z_iand dX12_isIdeal_28 ?_
      refine z_if_eq 34 dX12_isIdeal_29 rfl (fun hc => ?_) (fun hc => ?_)
      · rw [if_pos hc] at h
        exact h
      · rw [if_neg hc] at h
        refine z_iconst 0 dX12_isIdeal_32 rfl ?_
        exact z_ireturn .boolean dX12_isIdeal_33 rfl rfl h
set_option maxRecDepth 100000 in
set_option maxHeartbeats 4000000 in
theorem bX12_isIdeal_34 {X : zX} {d kc ks : Nat} {w : zW} {Q : Option Value → zW → Prop} (v0 : Nat) (v1 : Int32) (v2 : Int32) (v3 : Int32)
    (h : zRn X d kc ks MX12_isIdeal 2 [some (.ref v0), some (.int v1), some (.int v2), some (.int (v3 + 1))] [] w Q) :
    zRn X d kc ks MX12_isIdeal 34 [some (.ref v0), some (.int v1), some (.int v2), some (.int v3)] [] w Q := by
  refine z_iinc (i := 3) v3 (v3 + 1) dX12_isIdeal_34 rfl rfl (by decide) rfl ?_
  refine z_goto 2 dX12_isIdeal_37 rfl ?_
  exact h
theorem eX12_isIdeal {X : zX} {d kc ks : Nat} {w : zW} {Q : Option Value → zW → Prop} (p0 : Nat) (a1 : Int32) (a2 : Int32) (h : zRn X d kc ks MX12_isIdeal 0 [some (.ref p0), some (.int a1), some (.int a2), none] [] w Q) : zEv X d kc ks MX12_isIdeal [.ref p0, .int a1, .int a2] w Q :=
  zEv.of (by decide) (Nat.le_of_ble_eq_true rfl) (Or.inr (by simp [Value.category])) h
set_option maxRecDepth 100000 in
set_option maxHeartbeats 4000000 in
theorem bX12_hangs_0 {X : zX} {d kc ks : Nat} {w : zW} {Q : Option Value → zW → Prop} (p0 : Nat) (a1 : Int32)
    (h : zRn X d kc ks MX12_hangs 7 [some (.ref p0), some (.int a1), some (.int 0), some (.int 0), some (.int 0), none, none, none] [] w Q) :
    zRn X d kc ks MX12_hangs 0 [some (.ref p0), some (.int a1), none, none, none, none, none, none] [] w Q := by
  refine z_iconst 0 dX12_hangs_0 rfl ?_
  refine z_istore_n (i := 2) dX12_hangs_1 rfl (by decide) rfl ?_
  refine z_iconst 0 dX12_hangs_2 rfl ?_
  refine z_istore_n (i := 3) dX12_hangs_3 rfl (by decide) rfl ?_
  refine z_iconst 0 dX12_hangs_4 rfl ?_
  refine z_istore (i := 4) dX12_hangs_5 (by decide) rfl ?_
  exact h
set_option maxRecDepth 100000 in
set_option maxHeartbeats 4000000 in
theorem bX12_hangs_7 {X : zX} {d kc ks : Nat} {w : zW} {Q : Option Value → zW → Prop} (v0 : Nat) (v1 : Int32) (v2 : Int32) (v3 : Int32) (v4 : Int32)
    (h : zIs w v0 11 ∧ zCallI X d MX12_many [.ref v0, .int v1] w (fun x2 w1 => if x2 ≤ v4 then (Q (some (.int v2)) w1) else (zCallI X d MX12_has [.int v3, .int v4] w1 (fun x4 w3 => if x4 = 0 then (zRn X d kc ks MX12_hangs 41 [some (.ref v0), some (.int v1), some (.int (v2 + 1)), some (.int v3), some (.int v4), some (.int ((1 : Int32) <<< (v4 &&& 31))), some (.int 0), none] [] w3 Q) else (zRn X d kc ks MX12_hangs 113 [some (.ref v0), some (.int v1), some (.int v2), some (.int v3), some (.int v4), none, none, none] [] w3 Q))))) :
    zRn X d kc ks MX12_hangs 7 [some (.ref v0), some (.int v1), some (.int v2), some (.int v3), some (.int v4), none, none, none] [] w Q := by
  refine z_iload v4 dX12_hangs_7 rfl ?_
  refine z_aload_n v0 dX12_hangs_9 rfl rfl ?_
  refine z_iload_n v1 dX12_hangs_10 rfl rfl ?_
  refine zq_VI (N := MX12_many) (As := [.int v1]) m_X12_76 dX12_hangs_11 rfl rfl (Nat.le_of_ble_eq_true rfl) h (fun x2 w1 h => ?_)
  refine z_icmp_ge 119 dX12_hangs_14 rfl (fun hc => ?_) (fun hc => ?_)
  · rw [if_pos hc] at h
    refine z_iload_n v2 dX12_hangs_119 rfl rfl ?_
    exact z_ireturn .int dX12_hangs_120 rfl rfl h
  · rw [if_neg hc] at h
    refine z_iload_n v3 dX12_hangs_17 rfl rfl ?_
    refine z_iload v4 dX12_hangs_18 rfl ?_
    refine zq_SI (N := MX12_has) (As := [.int v3, .int v4]) m_X12_89 dX12_hangs_20 rfl rfl (Nat.le_of_ble_eq_true rfl) h (fun x4 w3 h => ?_)
    refine z_if_eq 29 dX12_hangs_23 rfl (fun hc => ?_) (fun hc => ?_)
    · rw [if_pos hc] at h
      refine z_iinc (i := 2) v2 (v2 + 1) dX12_hangs_29 rfl rfl (by decide) rfl ?_
      refine z_iconst 1 dX12_hangs_32 rfl ?_
      refine z_iload v4 dX12_hangs_33 rfl ?_
      refine z_ishl dX12_hangs_35 ?_
      refine z_istore (i := 5) dX12_hangs_36 (by decide) rfl ?_
      refine z_iconst 0 dX12_hangs_38 rfl ?_
      refine z_istore (i := 6) dX12_hangs_39 (by decide) rfl ?_
      exact h
    · rw [if_neg hc] at h
      refine z_goto 113 dX12_hangs_26 rfl ?_
      exact h
set_option maxRecDepth 100000 in
set_option maxHeartbeats 4000000 in
theorem bX12_hangs_41 {X : zX} {d kc ks : Nat} {w : zW} {Q : Option Value → zW → Prop} (v0 : Nat) (v1 : Int32) (v2 : Int32) (v3 : Int32) (v4 : Int32) (v5 : Int32) (v6 : Int32)
    (h : if v6 = v5 then (zRn X d kc ks MX12_hangs 113 [some (.ref v0), some (.int v1), some (.int v2), some (.int (v3 ||| v5)), some (.int v4), none, none, none] [] w Q) else (zRn X d kc ks MX12_hangs 55 [some (.ref v0), some (.int v1), some (.int v2), some (.int v3), some (.int v4), some (.int v5), some (.int v5), some (.int 0)] [] w Q)) :
    zRn X d kc ks MX12_hangs 41 [some (.ref v0), some (.int v1), some (.int v2), some (.int v3), some (.int v4), some (.int v5), some (.int v6), none] [] w Q := by
  refine z_iload v6 dX12_hangs_41 rfl ?_
  refine z_iload v5 dX12_hangs_43 rfl ?_
  refine z_icmp_eq 108 dX12_hangs_45 rfl (fun hc => ?_) (fun hc => ?_)
  · rw [if_pos hc] at h
    refine z_iload_n v3 dX12_hangs_108 rfl rfl ?_
    refine z_iload v5 dX12_hangs_109 rfl ?_
    refine z_ior dX12_hangs_111 ?_
    refine z_istore_n (i := 3) dX12_hangs_112 rfl (by decide) rfl ?_
    exact zRn.weak h (zLe_of [true, true, true, true, true, false, false, true] (And.intro rfl (And.intro rfl (And.intro rfl (And.intro rfl (And.intro rfl (And.intro rfl (And.intro rfl (And.intro rfl (trivial))))))))))
  · rw [if_neg hc] at h
    refine z_iload v5 dX12_hangs_48 rfl ?_
    refine z_istore (i := 6) dX12_hangs_50 (by decide) rfl ?_
    refine z_iconst 0 dX12_hangs_52 rfl ?_
    refine z_istore (i := 7) dX12_hangs_53 (by decide) rfl ?_
    exact h
set_option maxRecDepth 100000 in
set_option maxHeartbeats 4000000 in
theorem bX12_hangs_55 {X : zX} {d kc ks : Nat} {w : zW} {Q : Option Value → zW → Prop} (v0 : Nat) (v1 : Int32) (v2 : Int32) (v3 : Int32) (v4 : Int32) (v5 : Int32) (v6 : Int32) (v7 : Int32)
    (h : zIs w v0 11 ∧ zCallI X d MX12_many [.ref v0, .int v1] w (fun x2 w1 => if x2 ≤ v7 then (zRn X d kc ks MX12_hangs 41 [some (.ref v0), some (.int v1), some (.int v2), some (.int v3), some (.int v4), some (.int v5), some (.int v6), none] [] w1 Q) else (zCallI X d MX12_has [.int v6, .int v7] w1 (fun x4 w3 => if x4 = 0 then (zRn X d kc ks MX12_hangs 96 [some (.ref v0), some (.int v1), some (.int v2), some (.int v3), some (.int v4), none, some (.int v6), some (.int v7)] [.int 0, .int v5] w3 Q) else (zIs w3 v0 11 ∧ zCallI X d MX12_under [.ref v0, .int v1, .int v7] w3 (fun x6 w5 => zIs w5 v0 11 ∧ zCallI X d MX12_over [.ref v0, .int v1, .int v7] w5 (fun x8 w7 => zRn X d kc ks MX12_hangs 96 [some (.ref v0), some (.int v1), some (.int v2), some (.int v3), some (.int v4), none, some (.int v6), some (.int v7)] [.int (x6 ||| x8), .int v5] w7 Q))))))) :
    zRn X d kc ks MX12_hangs 55 [some (.ref v0), some (.int v1), some (.int v2), some (.int v3), some (.int v4), some (.int v5), some (.int v6), some (.int v7)] [] w Q := by
  refine z_iload v7 dX12_hangs_55 rfl ?_
  refine z_aload_n v0 dX12_hangs_57 rfl rfl ?_
  refine z_iload_n v1 dX12_hangs_58 rfl rfl ?_
  refine zq_VI (N := MX12_many) (As := [.int v1]) m_X12_76 dX12_hangs_59 rfl rfl (Nat.le_of_ble_eq_true rfl) h (fun x2 w1 h => ?_)
  refine z_icmp_ge 105 dX12_hangs_62 rfl (fun hc => ?_) (fun hc => ?_)
  · rw [if_pos hc] at h
    refine z_goto 41 dX12_hangs_105 rfl ?_
    exact zRn.weak h (zLe_of [true, true, true, true, true, true, true, false] (And.intro rfl (And.intro rfl (And.intro rfl (And.intro rfl (And.intro rfl (And.intro rfl (And.intro rfl (And.intro rfl (trivial))))))))))
  · rw [if_neg hc] at h
    refine z_iload v5 dX12_hangs_65 rfl ?_
    refine z_iload v6 dX12_hangs_67 rfl ?_
    refine z_iload v7 dX12_hangs_69 rfl ?_
    refine zq_SI (N := MX12_has) (As := [.int v6, .int v7]) m_X12_89 dX12_hangs_71 rfl rfl (Nat.le_of_ble_eq_true rfl) h (fun x4 w3 h => ?_)
    refine z_if_eq 95 dX12_hangs_74 rfl (fun hc => ?_) (fun hc => ?_)
    · rw [if_pos hc] at h
      refine z_iconst 0 dX12_hangs_95 rfl ?_
      exact zRn.weak h (zLe_of [true, true, true, true, true, false, true, true] (And.intro rfl (And.intro rfl (And.intro rfl (And.intro rfl (And.intro rfl (And.intro rfl (And.intro rfl (And.intro rfl (trivial))))))))))
    · rw [if_neg hc] at h
      refine z_aload_n v0 dX12_hangs_77 rfl rfl ?_
      refine z_iload_n v1 dX12_hangs_78 rfl rfl ?_
      refine z_iload v7 dX12_hangs_79 rfl ?_
      refine zq_VI (N := MX12_under) (As := [.int v1, .int v7]) m_X12_86 dX12_hangs_81 rfl rfl (Nat.le_of_ble_eq_true rfl) h (fun x6 w5 h => ?_)
      refine z_aload_n v0 dX12_hangs_84 rfl rfl ?_
      refine z_iload_n v1 dX12_hangs_85 rfl rfl ?_
      refine z_iload v7 dX12_hangs_86 rfl ?_
      refine zq_VI (N := MX12_over) (As := [.int v1, .int v7]) m_X12_97 dX12_hangs_88 rfl rfl (Nat.le_of_ble_eq_true rfl) h (fun x8 w7 h => ?_)
      refine z_ior dX12_hangs_91 ?_
      refine z_goto 96 dX12_hangs_92 rfl ?_
      exact zRn.weak h (zLe_of [true, true, true, true, true, false, true, true] (And.intro rfl (And.intro rfl (And.intro rfl (And.intro rfl (And.intro rfl (And.intro rfl (And.intro rfl (And.intro rfl (trivial))))))))))
set_option maxRecDepth 100000 in
set_option maxHeartbeats 4000000 in
theorem bX12_hangs_96 {X : zX} {d kc ks : Nat} {w : zW} {Q : Option Value → zW → Prop} (v0 : Nat) (v1 : Int32) (v2 : Int32) (v3 : Int32) (v4 : Int32) (v6 : Int32) (v7 : Int32) (u0 : Int32) (u1 : Int32)
    (h : zRn X d kc ks MX12_hangs 55 [some (.ref v0), some (.int v1), some (.int v2), some (.int v3), some (.int v4), some (.int (u1 ||| u0)), some (.int v6), some (.int (v7 + 1))] [] w Q) :
    zRn X d kc ks MX12_hangs 96 [some (.ref v0), some (.int v1), some (.int v2), some (.int v3), some (.int v4), none, some (.int v6), some (.int v7)] [.int u0, .int u1] w Q := by
  refine z_ior dX12_hangs_96 ?_
  refine z_istore (i := 5) dX12_hangs_97 (by decide) rfl ?_
  refine z_iinc (i := 7) v7 (v7 + 1) dX12_hangs_99 rfl rfl (by decide) rfl ?_
  refine z_goto 55 dX12_hangs_102 rfl ?_
  exact h
set_option maxRecDepth 100000 in
set_option maxHeartbeats 4000000 in
theorem bX12_hangs_113 {X : zX} {d kc ks : Nat} {w : zW} {Q : Option Value → zW → Prop} (v0 : Nat) (v1 : Int32) (v2 : Int32) (v3 : Int32) (v4 : Int32)
    (h : zRn X d kc ks MX12_hangs 7 [some (.ref v0), some (.int v1), some (.int v2), some (.int v3), some (.int (v4 + 1)), none, none, none] [] w Q) :
    zRn X d kc ks MX12_hangs 113 [some (.ref v0), some (.int v1), some (.int v2), some (.int v3), some (.int v4), none, none, none] [] w Q := by
  refine z_iinc (i := 4) v4 (v4 + 1) dX12_hangs_113 rfl rfl (by decide) rfl ?_
  refine z_goto 7 dX12_hangs_116 rfl ?_
  exact h
theorem eX12_hangs {X : zX} {d kc ks : Nat} {w : zW} {Q : Option Value → zW → Prop} (p0 : Nat) (a1 : Int32) (h : zRn X d kc ks MX12_hangs 0 [some (.ref p0), some (.int a1), none, none, none, none, none, none] [] w Q) : zEv X d kc ks MX12_hangs [.ref p0, .int a1] w Q :=
  zEv.of (by decide) (Nat.le_of_ble_eq_true rfl) (Or.inr (by simp [Value.category])) h
