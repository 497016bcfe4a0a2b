set_option maxRecDepth 100000 in
set_option maxHeartbeats 4000000 in
theorem bX12_critical_0 {X : zX} {d kc ks : Nat} {w : zW} {Q : Option Value → zW → Prop} (p0 : Nat) (a1 : Int32) (a2 : Int32)
    (h : zIs w p0 11 ∧ zCallI X d MX12_isOrder [.ref p0, .int a1] w (fun x2 w1 => if x2 = 0 then (Q (some (.int (-2))) w1) else (if (-1) ≤ a2 then (zIs w1 p0 11 ∧ zCallV X d MX12_laysTwos [.ref p0, .int a1] w1 (fun w3 => if a2 = (-1) then (∃ x9, zfI w3 p0 11 21 = some x9 ∧ (Q (some (.int x9)) w3)) else (∃ x4, zfI w3 p0 11 21 = some x4 ∧ (if x4 ≤ a2 then (Q (some (.int (-1))) w3) else (∃ r5, zfR w3 p0 11 19 = some r5 ∧ (∃ x6, zaI w3 r5 a2 = some x6 ∧ (∃ r7, zfR w3 p0 11 20 = some r7 ∧ (∃ x8, zaI w3 r7 a2 = some x8 ∧ (Q (some (.int (((10 : Int32) * x6) + x8))) w3))))))))) else (Q (some (.int (-2))) w1)))) :
    zRn X d kc ks MX12_critical 0 [some (.ref p0), some (.int a1), some (.int a2)] [] w Q := by
  refine z_aload_n p0 dX12_critical_0 rfl rfl ?_
  refine z_iload_n a1 dX12_critical_1 rfl rfl ?_
  refine zq_VI (N := MX12_isOrder) (As := [.int a1]) m_X12_80 dX12_critical_2 rfl rfl (Nat.le_of_ble_eq_true rfl) h (fun x2 w1 h => ?_)
  refine z_if_eq 13 dX12_critical_5 rfl (fun hc => ?_) (fun hc => ?_)
  · rw [if_pos hc] at h
    refine z_bipush (-2) dX12_critical_13 rfl ?_
    exact z_ireturn .int dX12_critical_15 rfl rfl h
  · rw [if_neg hc] at h
    refine z_iload_n a2 dX12_critical_8 rfl rfl ?_
    refine z_iconst (-1) dX12_critical_9 rfl ?_
    refine z_icmp_ge 16 dX12_critical_10 rfl (fun hc => ?_) (fun hc => ?_)
    · rw [if_pos hc] at h
      refine z_aload_n p0 dX12_critical_16 rfl rfl ?_
      refine z_iload_n a1 dX12_critical_17 rfl rfl ?_
      refine zq_VV (N := MX12_laysTwos) (As := [.int a1]) m_X12_324 dX12_critical_18 rfl rfl (Nat.le_of_ble_eq_true rfl) h (fun w3 h => ?_)
      refine z_iload_n a2 dX12_critical_21 rfl rfl ?_
      refine z_iconst (-1) dX12_critical_22 rfl ?_
      refine z_icmp_ne 33 dX12_critical_23 rfl (fun hc => ?_) (fun hc => ?_)
      · rw [if_neg hc] at h
        refine z_iload_n a2 dX12_critical_33 rfl rfl ?_
        refine z_aload_n p0 dX12_critical_34 rfl rfl ?_
        obtain ⟨x4, e, h⟩ := h
        refine zq_fI f_X12_321 dX12_critical_35 e ?_
        refine z_icmp_ge 60 dX12_critical_38 rfl (fun hc => ?_) (fun hc => ?_)
        · rw [if_pos hc] at h
          refine z_iconst (-1) dX12_critical_60 rfl ?_
          exact z_ireturn .int dX12_critical_61 rfl rfl h
        · rw [if_neg hc] at h
          refine z_bipush 10 dX12_critical_41 rfl ?_
          refine z_aload_n p0 dX12_critical_43 rfl rfl ?_
          obtain ⟨r5, e, h⟩ := h
          refine zq_fR f_X12_41 dX12_critical_44 e ?_
          refine z_iload_n a2 dX12_critical_47 rfl rfl ?_
          obtain ⟨x6, e, h⟩ := h
          refine zq_aI dX12_critical_48 e ?_
          refine z_imul dX12_critical_49 ?_
          refine z_aload_n p0 dX12_critical_50 rfl rfl ?_
          obtain ⟨r7, e, h⟩ := h
          refine zq_fR f_X12_44 dX12_critical_51 e ?_
          refine z_iload_n a2 dX12_critical_54 rfl rfl ?_
          obtain ⟨x8, e, h⟩ := h
          refine zq_aI dX12_critical_55 e ?_
          refine z_iadd dX12_critical_56 ?_
          refine z_goto 61 dX12_critical_57 rfl ?_
          exact z_ireturn .int dX12_critical_61 rfl rfl h
      · rw [if_pos hc] at h
        refine z_aload_n p0 dX12_critical_26 rfl rfl ?_
        obtain ⟨x9, e, h⟩ := h
        refine zq_fI f_X12_321 dX12_critical_27 e ?_
        refine z_goto 61 dX12_critical_30 rfl ?_
        exact z_ireturn .int dX12_critical_61 rfl rfl h
    · rw [if_neg hc] at h
      refine z_bipush (-2) dX12_critical_13 rfl ?_
      exact z_ireturn .int dX12_critical_15 rfl rfl h
theorem eX12_critical {X : zX} {d kc ks : Nat} {w : zW} {Q : Option Value → zW → Prop} (p0 : Nat) (a1 : Int32) (a2 : Int32) (h : zRn X d kc ks MX12_critical 0 [some (.ref p0), some (.int a1), some (.int a2)] [] w Q) : zEv X d kc ks MX12_critical [.ref p0, .int a1, .int a2] w Q :=
  zEv.of (by decide) (Nat.le_of_ble_eq_true rfl) (Or.inr (by simp [Value.category])) h
set_option maxRecDepth 100000 in
set_option maxHeartbeats 4000000 in
theorem bX12_laysTwos_0 {X : zX} {d kc ks : Nat} {w : zW} {Q : Option Value → zW → Prop} (p0 : Nat) (a1 : Int32)
    (h : ∃ w1, zsF w p0 11 21 (.int 0) = some w1 ∧ (zRn X d kc ks MX12_laysTwos 7 [some (.ref p0), some (.int a1), some (.int 0), none] [] w1 Q)) :
    zRn X d kc ks MX12_laysTwos 0 [some (.ref p0), some (.int a1), none, none] [] w Q := by
  refine z_aload_n p0 dX12_laysTwos_0 rfl rfl ?_
  refine z_iconst 0 dX12_laysTwos_1 rfl ?_
  obtain ⟨w1, e, h⟩ := h
  refine zq_sF f_X12_321 dX12_laysTwos_2 (fun _ => rfl) (fun _ => rfl) e ?_
  refine z_iconst 0 dX12_laysTwos_5 rfl ?_
  refine z_istore_n (i := 2) dX12_laysTwos_6 rfl (by decide) rfl ?_
  exact h
set_option maxRecDepth 100000 in
set_option maxHeartbeats 4000000 in
theorem bX12_laysTwos_7 {X : zX} {d kc ks : Nat} {w : zW} {Q : Option Value → zW → Prop} (v0 : Nat) (v1 : Int32) (v2 : Int32)
    (h : zIs w v0 11 ∧ zCallI X d MX12_many [.ref v0, .int v1] w (fun x2 w1 => if x2 ≤ v2 then (Q none w1) else (zRn X d kc ks MX12_laysTwos 18 [some (.ref v0), some (.int v1), some (.int v2), some (.int 0)] [] w1 Q))) :
    zRn X d kc ks MX12_laysTwos 7 [some (.ref v0), some (.int v1), some (.int v2), none] [] w Q := by
  refine z_iload_n v2 dX12_laysTwos_7 rfl rfl ?_
  refine z_aload_n v0 dX12_laysTwos_8 rfl rfl ?_
  refine z_iload_n v1 dX12_laysTwos_9 rfl rfl ?_
  refine zq_VI (N := MX12_many) (As := [.int v1]) m_X12_76 dX12_laysTwos_10 rfl rfl (Nat.le_of_ble_eq_true rfl) h (fun x2 w1 h => ?_)
  refine z_icmp_ge 115 dX12_laysTwos_13 rfl (fun hc => ?_) (fun hc => ?_)
  · rw [if_pos hc] at h
    exact z_vreturn dX12_laysTwos_115 rfl h
  · rw [if_neg hc] at h
    refine z_iconst 0 dX12_laysTwos_16 rfl ?_
    refine z_istore_n (i := 3) dX12_laysTwos_17 rfl (by decide) rfl ?_
    exact h
set_option maxRecDepth 100000 in
set_option maxHeartbeats 4000000 in
theorem bX12_laysTwos_18 {X : zX} {d kc ks : Nat} {w : zW} {Q : Option Value → zW → Prop} (v0 : Nat) (v1 : Int32) (v2 : Int32) (v3 : Int32)
    (h : zIs w v0 11 ∧ zCallI X d MX12_many [.ref v0, .int v1] w (fun x2 w1 => if x2 ≤ v3 then (zRn X d kc ks MX12_laysTwos 7 [some (.ref v0), some (.int v1), some (.int (v2 + 1)), none] [] w1 Q) else (zIs w1 v0 11 ∧ zCallI X d MX12_areFree [.ref v0, .int v1, .int v2, .int v3] w1 (fun x4 w3 => if x4 = 0 then (zRn X d kc ks MX12_laysTwos 103 [some (.ref v0), some (.int v1), some (.int v2), some (.int v3)] [] w3 Q) else (zIs w3 v0 11 ∧ zCallI X d MX12_under [.ref v0, .int v1, .int v2] w3 (fun x6 w5 => zIs w5 v0 11 ∧ zCallI X d MX12_under [.ref v0, .int v1, .int v3] w5 (fun x8 w7 => if (x6 &&& (x8 ^^^ (-1))) = 0 then (zIs w7 v0 11 ∧ zCallI X d MX12_over [.ref v0, .int v1, .int v3] w7 (fun x10 w9 => zIs w9 v0 11 ∧ zCallI X d MX12_over [.ref v0, .int v1, .int v2] w9 (fun x12 w11 => if (x10 &&& (x12 ^^^ (-1))) = 0 then (∃ r13, zfR w11 v0 11 19 = some r13 ∧ (∃ x14, zfI w11 v0 11 21 = some x14 ∧ (∃ w15, zsI w11 r13 x14 v2 = some w15 ∧ (∃ r16, zfR w15 v0 11 20 = some r16 ∧ (∃ x17, zfI w15 v0 11 21 = some x17 ∧ (∃ w18, zsI w15 r16 x17 v3 = some w18 ∧ (∃ x19, zfI w18 v0 11 21 = some x19 ∧ (∃ w20, zsF w18 v0 11 21 (.int (x19 + 1)) = some w20 ∧ (zRn X d kc ks MX12_laysTwos 103 [some (.ref v0), some (.int v1), some (.int v2), some (.int v3)] [] w20 Q))))))))) else (zRn X d kc ks MX12_laysTwos 103 [some (.ref v0), some (.int v1), some (.int v2), some (.int v3)] [] w11 Q)))) else (zRn X d kc ks MX12_laysTwos 103 [some (.ref v0), some (.int v1), some (.int v2), some (.int v3)] [] w7 Q)))))))) :
    zRn X d kc ks MX12_laysTwos 18 [some (.ref v0), some (.int v1), some (.int v2), some (.int v3)] [] w Q := by
  refine z_iload_n v3 dX12_laysTwos_18 rfl rfl ?_
  refine z_aload_n v0 dX12_laysTwos_19 rfl rfl ?_
  refine z_iload_n v1 dX12_laysTwos_20 rfl rfl ?_
  refine zq_VI (N := MX12_many) (As := [.int v1]) m_X12_76 dX12_laysTwos_21 rfl rfl (Nat.le_of_ble_eq_true rfl) h (fun x2 w1 h => ?_)
  refine z_icmp_ge 109 dX12_laysTwos_24 rfl (fun hc => ?_) (fun hc => ?_)
  · rw [if_pos hc] at h
    refine z_iinc (i := 2) v2 (v2 + 1) dX12_laysTwos_109 rfl rfl (by decide) rfl ?_
    refine z_goto 7 dX12_laysTwos_112 rfl ?_
    exact zRn.weak h (zLe_of [true, true, true, false] (And.intro rfl (And.intro rfl (And.intro rfl (And.intro rfl (trivial))))))
  · rw [if_neg hc] at h
    refine z_aload_n v0 dX12_laysTwos_27 rfl rfl ?_
    refine z_iload_n v1 dX12_laysTwos_28 rfl rfl ?_
    refine z_iload_n v2 dX12_laysTwos_29 rfl rfl ?_
    refine z_iload_n v3 dX12_laysTwos_30 rfl rfl ?_
    refine zq_VI (N := MX12_areFree) (As := [.int v1, .int v2, .int v3]) m_X12_227 dX12_laysTwos_31 rfl rfl (Nat.le_of_ble_eq_true rfl) h (fun x4 w3 h => ?_)
    refine z_if_eq 103 dX12_laysTwos_34 rfl (fun hc => ?_) (fun hc => ?_)
    · rw [if_pos hc] at h
      exact h
    · rw [if_neg hc] at h
      refine z_aload_n v0 dX12_laysTwos_37 rfl rfl ?_
      refine z_iload_n v1 dX12_laysTwos_38 rfl rfl ?_
      refine z_iload_n v2 dX12_laysTwos_39 rfl rfl ?_
      refine zq_VI (N := MX12_under) (As := [.int v1, .int v2]) m_X12_86 dX12_laysTwos_40 rfl rfl (Nat.le_of_ble_eq_true rfl) h (fun x6 w5 h => ?_)
      refine z_aload_n v0 dX12_laysTwos_43 rfl rfl ?_
      refine z_iload_n v1 dX12_laysTwos_44 rfl rfl ?_
      refine z_iload_n v3 dX12_laysTwos_45 rfl rfl ?_
      refine zq_VI (N := MX12_under) (As := [.int v1, .int v3]) m_X12_86 dX12_laysTwos_46 rfl rfl (Nat.le_of_ble_eq_true rfl) h (fun x8 w7 h => ?_)
      refine z_iconst (-1) dX12_laysTwos_49 rfl ?_
      refine z_ixor dX12_laysTwos_50 ?_
      refine z_iand dX12_laysTwos_51 ?_
      refine z_if_ne 103 dX12_laysTwos_52 rfl (fun hc => ?_) (fun hc => ?_)
      · rw [if_neg hc] at h
        exact h
      · rw [if_pos hc] at h
        refine z_aload_n v0 dX12_laysTwos_55 rfl rfl ?_
        refine z_iload_n v1 dX12_laysTwos_56 rfl rfl ?_
        refine z_iload_n v3 dX12_laysTwos_57 rfl rfl ?_
        refine zq_VI (N := MX12_over) (As := [.int v1, .int v3]) m_X12_97 dX12_laysTwos_58 rfl rfl (Nat.le_of_ble_eq_true rfl) h (fun x10 w9 h => ?_)
        refine z_aload_n v0 dX12_laysTwos_61 rfl rfl ?_
        refine z_iload_n v1 dX12_laysTwos_62 rfl rfl ?_
        refine z_iload_n v2 dX12_laysTwos_63 rfl rfl ?_
        refine zq_VI (N := MX12_over) (As := [.int v1, .int v2]) m_X12_97 dX12_laysTwos_64 rfl rfl (Nat.le_of_ble_eq_true rfl) h (fun x12 w11 h => ?_)
        refine z_iconst (-1) dX12_laysTwos_67 rfl ?_
        refine z_ixor dX12_laysTwos_68 ?_
        refine z_iand dX12_laysTwos_69 ?_
        refine z_if_ne 103 dX12_laysTwos_70 rfl (fun hc => ?_) (fun hc => ?_)
        · rw [if_neg hc] at h
          exact h
        · rw [if_pos hc] at h
          refine z_aload_n v0 dX12_laysTwos_73 rfl rfl ?_
          obtain ⟨r13, e, h⟩ := h
          refine zq_fR f_X12_41 dX12_laysTwos_74 e ?_
          refine z_aload_n v0 dX12_laysTwos_77 rfl rfl ?_
          obtain ⟨x14, e, h⟩ := h
          refine zq_fI f_X12_321 dX12_laysTwos_78 e ?_
          refine z_iload_n v2 dX12_laysTwos_81 rfl rfl ?_
          obtain ⟨w15, e, h⟩ := h
          refine zq_sI dX12_laysTwos_82 e ?_
          refine z_aload_n v0 dX12_laysTwos_83 rfl rfl ?_
          obtain ⟨r16, e, h⟩ := h
          refine zq_fR f_X12_44 dX12_laysTwos_84 e ?_
          refine z_aload_n v0 dX12_laysTwos_87 rfl rfl ?_
          obtain ⟨x17, e, h⟩ := h
          refine zq_fI f_X12_321 dX12_laysTwos_88 e ?_
          refine z_iload_n v3 dX12_laysTwos_91 rfl rfl ?_
          obtain ⟨w18, e, h⟩ := h
          refine zq_sI dX12_laysTwos_92 e ?_
          refine z_aload_n v0 dX12_laysTwos_93 rfl rfl ?_
          refine z_dup dX12_laysTwos_94 rfl ?_
          obtain ⟨x19, e, h⟩ := h
          refine zq_fI f_X12_321 dX12_laysTwos_95 e ?_
          refine z_iconst 1 dX12_laysTwos_98 rfl ?_
          refine z_iadd dX12_laysTwos_99 ?_
          obtain ⟨w20, e, h⟩ := h
          refine zq_sF f_X12_321 dX12_laysTwos_100 (fun _ => rfl) (fun _ => rfl) e ?_
          exact h
set_option maxRecDepth 100000 in
set_option maxHeartbeats 4000000 in
theorem bX12_laysTwos_103 {X : zX} {d kc ks : Nat} {w : zW} {Q : Option Value → zW → Prop} (v0 : Nat) (v1 : Int32) (v2 : Int32) (v3 : Int32)
    (h : zRn X d kc ks MX12_laysTwos 18 [some (.ref v0), some (.int v1), some (.int v2), some (.int (v3 + 1))] [] w Q) :
    zRn X d kc ks MX12_laysTwos 103 [some (.ref v0), some (.int v1), some (.int v2), some (.int v3)] [] w Q := by
  refine z_iinc (i := 3) v3 (v3 + 1) dX12_laysTwos_103 rfl rfl (by decide) rfl ?_
  refine z_goto 18 dX12_laysTwos_106 rfl ?_
  exact h
theorem eX12_laysTwos {X : zX} {d kc ks : Nat} {w : zW} {Q : Option Value → zW → Prop} (p0 : Nat) (a1 : Int32) (h : zRn X d kc ks MX12_laysTwos 0 [some (.ref p0), some (.int a1), none, none] [] w Q) : zEv X d kc ks MX12_laysTwos [.ref p0, .int a1] w Q :=
  zEv.of (by decide) (Nat.le_of_ble_eq_true rfl) (Or.inr (by simp [Value.category])) h
set_option maxRecDepth 100000 in
set_option maxHeartbeats 4000000 in
theorem bX12_reversed_0 {X : zX} {d kc ks : Nat} {w : zW} {Q : Option Value → zW → Prop} (p0 : Nat) (a1 : Int32) (a2 : Int32)
    (h : zIs w p0 11 ∧ zCallI X d MX12_isRow [.ref p0, .int a1, .int a2] w (fun x2 w1 => if x2 = 0 then (Q (some (.int (-2))) w1) else (zIs w1 p0 11 ∧ zCallV X d MX12_laysTwos [.ref p0, .int a1] w1 (fun w3 => zRn X d kc ks MX12_reversed 22 [some (.ref p0), some (.int a1), some (.int a2), some (.int 0), some (.int 0)] [] w3 Q)))) :
    zRn X d kc ks MX12_reversed 0 [some (.ref p0), some (.int a1), some (.int a2), none, none] [] w Q := by
  refine z_aload_n p0 dX12_reversed_0 rfl rfl ?_
  refine z_iload_n a1 dX12_reversed_1 rfl rfl ?_
  refine z_iload_n a2 dX12_reversed_2 rfl rfl ?_
  refine zq_VI (N := MX12_isRow) (As := [.int a1, .int a2]) m_X12_295 dX12_reversed_3 rfl rfl (Nat.le_of_ble_eq_true rfl) h (fun x2 w1 h => ?_)
  refine z_if_ne 12 dX12_reversed_6 rfl (fun hc => ?_) (fun hc => ?_)
  · rw [if_neg hc] at h
    refine z_aload_n p0 dX12_reversed_12 rfl rfl ?_
    refine z_iload_n a1 dX12_reversed_13 rfl rfl ?_
    refine zq_VV (N := MX12_laysTwos) (As := [.int a1]) m_X12_324 dX12_reversed_14 rfl rfl (Nat.le_of_ble_eq_true rfl) h (fun w3 h => ?_)
    refine z_iconst 0 dX12_reversed_17 rfl ?_
    refine z_istore_n (i := 3) dX12_reversed_18 rfl (by decide) rfl ?_
    refine z_iconst 0 dX12_reversed_19 rfl ?_
    refine z_istore (i := 4) dX12_reversed_20 (by decide) rfl ?_
    exact h
  · rw [if_pos hc] at h
    refine z_bipush (-2) dX12_reversed_9 rfl ?_
    exact z_ireturn .int dX12_reversed_11 rfl rfl h
set_option maxRecDepth 100000 in
set_option maxHeartbeats 4000000 in
theorem bX12_reversed_22 {X : zX} {d kc ks : Nat} {w : zW} {Q : Option Value → zW → Prop} (v0 : Nat) (v1 : Int32) (v2 : Int32) (v3 : Int32) (v4 : Int32)
    (h : ∃ x1, zfI w v0 11 21 = some x1 ∧ (if x1 ≤ v4 then (Q (some (.int v3)) w) else (∃ r2, zfR w v0 11 19 = some r2 ∧ (∃ x3, zaI w r2 v4 = some x3 ∧ (zIs w v0 11 ∧ zCallI X d MX12_placeIn [.ref v0, .int v1, .int v2, .int x3] w (fun x5 w4 => ∃ r6, zfR w4 v0 11 20 = some r6 ∧ (∃ x7, zaI w4 r6 v4 = some x7 ∧ (zIs w4 v0 11 ∧ zCallI X d MX12_placeIn [.ref v0, .int v1, .int v2, .int x7] w4 (fun x9 w8 => if x5 ≤ x9 then (zRn X d kc ks MX12_reversed 66 [some (.ref v0), some (.int v1), some (.int v2), none, some (.int v4)] [.int 0, .int v3] w8 Q) else (zRn X d kc ks MX12_reversed 66 [some (.ref v0), some (.int v1), some (.int v2), none, some (.int v4)] [.int 1, .int v3] w8 Q)))))))))) :
    zRn X d kc ks MX12_reversed 22 [some (.ref v0), some (.int v1), some (.int v2), some (.int v3), some (.int v4)] [] w Q := by
  refine z_iload v4 dX12_reversed_22 rfl ?_
  refine z_aload_n v0 dX12_reversed_24 rfl rfl ?_
  obtain ⟨x1, e, h⟩ := h
  refine zq_fI f_X12_321 dX12_reversed_25 e ?_
  refine z_icmp_ge 74 dX12_reversed_28 rfl (fun hc => ?_) (fun hc => ?_)
  · rw [if_pos hc] at h
    refine z_iload_n v3 dX12_reversed_74 rfl rfl ?_
    exact z_ireturn .int dX12_reversed_75 rfl rfl h
  · rw [if_neg hc] at h
    refine z_iload_n v3 dX12_reversed_31 rfl rfl ?_
    refine z_aload_n v0 dX12_reversed_32 rfl rfl ?_
    refine z_iload_n v1 dX12_reversed_33 rfl rfl ?_
    refine z_iload_n v2 dX12_reversed_34 rfl rfl ?_
    refine z_aload_n v0 dX12_reversed_35 rfl rfl ?_
    obtain ⟨r2, e, h⟩ := h
    refine zq_fR f_X12_41 dX12_reversed_36 e ?_
    refine z_iload v4 dX12_reversed_39 rfl ?_
    obtain ⟨x3, e, h⟩ := h
    refine zq_aI dX12_reversed_41 e ?_
    refine zq_VI (N := MX12_placeIn) (As := [.int v1, .int v2, .int x3]) m_X12_327 dX12_reversed_42 rfl rfl (Nat.le_of_ble_eq_true rfl) h (fun x5 w4 h => ?_)
    refine z_aload_n v0 dX12_reversed_45 rfl rfl ?_
    refine z_iload_n v1 dX12_reversed_46 rfl rfl ?_
    refine z_iload_n v2 dX12_reversed_47 rfl rfl ?_
    refine z_aload_n v0 dX12_reversed_48 rfl rfl ?_
    obtain ⟨r6, e, h⟩ := h
    refine zq_fR f_X12_44 dX12_reversed_49 e ?_
    refine z_iload v4 dX12_reversed_52 rfl ?_
    obtain ⟨x7, e, h⟩ := h
    refine zq_aI dX12_reversed_54 e ?_
    refine zq_VI (N := MX12_placeIn) (As := [.int v1, .int v2, .int x7]) m_X12_327 dX12_reversed_55 rfl rfl (Nat.le_of_ble_eq_true rfl) h (fun x9 w8 h => ?_)
    refine z_icmp_le 65 dX12_reversed_58 rfl (fun hc => ?_) (fun hc => ?_)
    · rw [if_pos hc] at h
      refine z_iconst 0 dX12_reversed_65 rfl ?_
      exact zRn.weak h (zLe_of [true, true, true, false, true] (And.intro rfl (And.intro rfl (And.intro rfl (And.intro rfl (And.intro rfl (trivial)))))))
    · rw [if_neg hc] at h
      refine z_iconst 1 dX12_reversed_61 rfl ?_
      refine z_goto 66 dX12_reversed_62 rfl ?_
      exact zRn.weak h (zLe_of [true, true, true, false, true] (And.intro rfl (And.intro rfl (And.intro rfl (And.intro rfl (And.intro rfl (trivial)))))))
set_option maxRecDepth 100000 in
set_option maxHeartbeats 4000000 in
theorem bX12_reversed_66 {X : zX} {d kc ks : Nat} {w : zW} {Q : Option Value → zW → Prop} (v0 : Nat) (v1 : Int32) (v2 : Int32) (v4 : Int32) (u0 : Int32) (u1 : Int32)
    (h : zRn X d kc ks MX12_reversed 22 [some (.ref v0), some (.int v1), some (.int v2), some (.int (u1 + u0)), some (.int (v4 + 1))] [] w Q) :
    zRn X d kc ks MX12_reversed 66 [some (.ref v0), some (.int v1), some (.int v2), none, some (.int v4)] [.int u0, .int u1] w Q := by
  refine z_iadd dX12_reversed_66 ?_
  refine z_istore_n (i := 3) dX12_reversed_67 rfl (by decide) rfl ?_
  refine z_iinc (i := 4) v4 (v4 + 1) dX12_reversed_68 rfl rfl (by decide) rfl ?_
  refine z_goto 22 dX12_reversed_71 rfl ?_
  exact h
theorem eX12_reversed {X : zX} {d kc ks : Nat} {w : zW} {Q : Option Value → zW → Prop} (p0 : Nat) (a1 : Int32) (a2 : Int32) (h : zRn X d kc ks MX12_reversed 0 [some (.ref p0), some (.int a1), some (.int a2), none, none] [] w Q) : zEv X d kc ks MX12_reversed [.ref p0, .int a1, .int a2] w Q :=
  zEv.of (by decide) (Nat.le_of_ble_eq_true rfl) (Or.inr (by simp [Value.category])) h
set_option maxRecDepth 100000 in
set_option maxHeartbeats 4000000 in
theorem bX12_placeIn_0 {X : zX} {d kc ks : Nat} {w : zW} {Q : Option Value → zW → Prop} (p0 : Nat) (a1 : Int32) (a2 : Int32) (a3 : Int32)
    (h : zRn X d kc ks MX12_placeIn 3 [some (.ref p0), some (.int a1), some (.int a2), some (.int a3), some (.int 0)] [] w Q) :
    zRn X d kc ks MX12_placeIn 0 [some (.ref p0), some (.int a1), some (.int a2), some (.int a3), none] [] w Q := by
  refine z_iconst 0 dX12_placeIn_0 rfl ?_
  refine z_istore (i := 4) dX12_placeIn_1 (by decide) rfl ?_
  exact h
set_option maxRecDepth 100000 in
set_option maxHeartbeats 4000000 in
theorem bX12_placeIn_3 {X : zX} {d kc ks : Nat} {w : zW} {Q : Option Value → zW → Prop} (v0 : Nat) (v1 : Int32) (v2 : Int32) (v3 : Int32) (v4 : Int32)
    (h : zIs w v0 11 ∧ zCallI X d MX12_rowAt [.ref v0, .int v1, .int v2, .int v4] w (fun x2 w1 => if x2 = v3 then (Q (some (.int v4)) w1) else (zRn X d kc ks MX12_placeIn 3 [some (.ref v0), some (.int v1), some (.int v2), some (.int v3), some (.int (v4 + 1))] [] w1 Q))) :
    zRn X d kc ks MX12_placeIn 3 [some (.ref v0), some (.int v1), some (.int v2), some (.int v3), some (.int v4)] [] w Q := by
  refine z_aload_n v0 dX12_placeIn_3 rfl rfl ?_
  refine z_iload_n v1 dX12_placeIn_4 rfl rfl ?_
  refine z_iload_n v2 dX12_placeIn_5 rfl rfl ?_
  refine z_iload v4 dX12_placeIn_6 rfl ?_
  refine zq_VI (N := MX12_rowAt) (As := [.int v1, .int v2, .int v4]) m_X12_291 dX12_placeIn_8 rfl rfl (Nat.le_of_ble_eq_true rfl) h (fun x2 w1 h => ?_)
  refine z_iload_n v3 dX12_placeIn_11 rfl rfl ?_
  refine z_icmp_eq 21 dX12_placeIn_12 rfl (fun hc => ?_) (fun hc => ?_)
  · rw [if_pos hc] at h
    refine z_iload v4 dX12_placeIn_21 rfl ?_
    exact z_ireturn .int dX12_placeIn_23 rfl rfl h
  · rw [if_neg hc] at h
    refine z_iinc (i := 4) v4 (v4 + 1) dX12_placeIn_15 rfl rfl (by decide) rfl ?_
    refine z_goto 3 dX12_placeIn_18 rfl ?_
    exact h
theorem eX12_placeIn {X : zX} {d kc ks : Nat} {w : zW} {Q : Option Value → zW → Prop} (p0 : Nat) (a1 : Int32) (a2 : Int32) (a3 : Int32) (h : zRn X d kc ks MX12_placeIn 0 [some (.ref p0), some (.int a1), some (.int a2), some (.int a3), none] [] w Q) : zEv X d kc ks MX12_placeIn [.ref p0, .int a1, .int a2, .int a3] w Q :=
  zEv.of (by decide) (Nat.le_of_ble_eq_true rfl) (Or.inr (by simp [Value.category])) h
set_option maxRecDepth 100000 in
set_option maxHeartbeats 4000000 in
theorem bX12_ahead_0 {X : zX} {d kc ks : Nat} {w : zW} {Q : Option Value → zW → Prop} (p0 : Nat) (a1 : Int32) (a2 : Int32)
    (h : zIs w p0 11 ∧ zCallI X d MX12_isThing [.ref p0, .int a1, .int a2] w (fun x2 w1 => if x2 = 0 then (Q (some (.int (-2))) w1) else (zIs w1 p0 11 ∧ zCallI X d MX12_aheadOf [.ref p0, .int a1, .int a2] w1 (fun x4 w3 => Q (some (.int x4)) w3)))) :
    zRn X d kc ks MX12_ahead 0 [some (.ref p0), some (.int a1), some (.int a2)] [] w Q := by
  refine z_aload_n p0 dX12_ahead_0 rfl rfl ?_
  refine z_iload_n a1 dX12_ahead_1 rfl rfl ?_
  refine z_iload_n a2 dX12_ahead_2 rfl rfl ?_
  refine zq_VI (N := MX12_isThing) (As := [.int a1, .int a2]) m_X12_215 dX12_ahead_3 rfl rfl (Nat.le_of_ble_eq_true rfl) h (fun x2 w1 h => ?_)
  refine z_if_eq 18 dX12_ahead_6 rfl (fun hc => ?_) (fun hc => ?_)
  · rw [if_pos hc] at h
    refine z_bipush (-2) dX12_ahead_18 rfl ?_
    exact z_ireturn .int dX12_ahead_20 rfl rfl h
  · rw [if_neg hc] at h
    refine z_aload_n p0 dX12_ahead_9 rfl rfl ?_
    refine z_iload_n a1 dX12_ahead_10 rfl rfl ?_
    refine z_iload_n a2 dX12_ahead_11 rfl rfl ?_
    refine zq_VI (N := MX12_aheadOf) (As := [.int a1, .int a2]) m_X12_330 dX12_ahead_12 rfl rfl (Nat.le_of_ble_eq_true rfl) h (fun x4 w3 h => ?_)
    refine z_goto 20 dX12_ahead_15 rfl ?_
    exact z_ireturn .int dX12_ahead_20 rfl rfl h
theorem eX12_ahead {X : zX} {d kc ks : Nat} {w : zW} {Q : Option Value → zW → Prop} (p0 : Nat) (a1 : Int32) (a2 : Int32) (h : zRn X d kc ks MX12_ahead 0 [some (.ref p0), some (.int a1), some (.int a2)] [] w Q) : zEv X d kc ks MX12_ahead [.ref p0, .int a1, .int a2] w Q :=
  zEv.of (by decide) (Nat.le_of_ble_eq_true rfl) (Or.inr (by simp [Value.category])) h
set_option maxRecDepth 100000 in
set_option maxHeartbeats 4000000 in
theorem bX12_aheadOf_0 {X : zX} {d kc ks : Nat} {w : zW} {Q : Option Value → zW → Prop} (p0 : Nat) (a1 : Int32) (a2 : Int32)
    (h : zIs w p0 11 ∧ zCallI X d MX12_many [.ref p0, .int a1] w (fun x2 w1 => zRn X d kc ks MX12_aheadOf 19 [some (.ref p0), some (.int a1), some (.int a2), some (.int ((((1 : Int32) <<< (x2 &&& 31)) - 1) &&& (((1 : Int32) <<< (a2 &&& 31)) ^^^ (-1)))), some (.int 0), none] [] w1 Q)) :
    zRn X d kc ks MX12_aheadOf 0 [some (.ref p0), some (.int a1), some (.int a2), none, none, none] [] w Q := by
  refine z_iconst 1 dX12_aheadOf_0 rfl ?_
  refine z_aload_n p0 dX12_aheadOf_1 rfl rfl ?_
  refine z_iload_n a1 dX12_aheadOf_2 rfl rfl ?_
  refine zq_VI (N := MX12_many) (As := [.int a1]) m_X12_76 dX12_aheadOf_3 rfl rfl (Nat.le_of_ble_eq_true rfl) h (fun x2 w1 h => ?_)
  refine z_ishl dX12_aheadOf_6 ?_
  refine z_iconst 1 dX12_aheadOf_7 rfl ?_
  refine z_isub dX12_aheadOf_8 ?_
  refine z_iconst 1 dX12_aheadOf_9 rfl ?_
  refine z_iload_n a2 dX12_aheadOf_10 rfl rfl ?_
  refine z_ishl dX12_aheadOf_11 ?_
  refine z_iconst (-1) dX12_aheadOf_12 rfl ?_
  refine z_ixor dX12_aheadOf_13 ?_
  refine z_iand dX12_aheadOf_14 ?_
  refine z_istore_n (i := 3) dX12_aheadOf_15 rfl (by decide) rfl ?_
  refine z_iconst 0 dX12_aheadOf_16 rfl ?_
  refine z_istore (i := 4) dX12_aheadOf_17 (by decide) rfl ?_
  exact h
set_option maxRecDepth 100000 in
set_option maxHeartbeats 4000000 in
theorem bX12_aheadOf_19 {X : zX} {d kc ks : Nat} {w : zW} {Q : Option Value → zW → Prop} (v0 : Nat) (v1 : Int32) (v2 : Int32) (v3 : Int32) (v4 : Int32)
    (h : zIs w v0 11 ∧ zCallI X d MX12_rows [.ref v0, .int v1] w (fun x2 w1 => if x2 ≤ v4 then (Q (some (.int v3)) w1) else (zIs w1 v0 11 ∧ zCallI X d MX12_placeIn [.ref v0, .int v1, .int v4, .int v2] w1 (fun x4 w3 => zRn X d kc ks MX12_aheadOf 39 [some (.ref v0), some (.int v1), some (.int v2), some (.int v3), some (.int v4), some (.int x4)] [] w3 Q)))) :
    zRn X d kc ks MX12_aheadOf 19 [some (.ref v0), some (.int v1), some (.int v2), some (.int v3), some (.int v4), none] [] w Q := by
  refine z_iload v4 dX12_aheadOf_19 rfl ?_
  refine z_aload_n v0 dX12_aheadOf_21 rfl rfl ?_
  refine z_iload_n v1 dX12_aheadOf_22 rfl rfl ?_
  refine zq_VI (N := MX12_rows) (As := [.int v1]) m_X12_83 dX12_aheadOf_23 rfl rfl (Nat.le_of_ble_eq_true rfl) h (fun x2 w1 h => ?_)
  refine z_icmp_ge 77 dX12_aheadOf_26 rfl (fun hc => ?_) (fun hc => ?_)
  · rw [if_pos hc] at h
    refine z_iload_n v3 dX12_aheadOf_77 rfl rfl ?_
    exact z_ireturn .int dX12_aheadOf_78 rfl rfl h
  · rw [if_neg hc] at h
    refine z_aload_n v0 dX12_aheadOf_29 rfl rfl ?_
    refine z_iload_n v1 dX12_aheadOf_30 rfl rfl ?_
    refine z_iload v4 dX12_aheadOf_31 rfl ?_
    refine z_iload_n v2 dX12_aheadOf_33 rfl rfl ?_
    refine zq_VI (N := MX12_placeIn) (As := [.int v1, .int v4, .int v2]) m_X12_327 dX12_aheadOf_34 rfl rfl (Nat.le_of_ble_eq_true rfl) h (fun x4 w3 h => ?_)
    refine z_istore (i := 5) dX12_aheadOf_37 (by decide) rfl ?_
    exact h
set_option maxRecDepth 100000 in
set_option maxHeartbeats 4000000 in
theorem bX12_aheadOf_39 {X : zX} {d kc ks : Nat} {w : zW} {Q : Option Value → zW → Prop} (v0 : Nat) (v1 : Int32) (v2 : Int32) (v3 : Int32) (v4 : Int32) (v5 : Int32)
    (h : zIs w v0 11 ∧ zCallI X d MX12_many [.ref v0, .int v1] w (fun x2 w1 => if x2 ≤ v5 then (zRn X d kc ks MX12_aheadOf 19 [some (.ref v0), some (.int v1), some (.int v2), some (.int v3), some (.int (v4 + 1)), none] [] w1 Q) else (zIs w1 v0 11 ∧ zCallI X d MX12_rowAt [.ref v0, .int v1, .int v4, .int v5] w1 (fun x4 w3 => zRn X d kc ks MX12_aheadOf 39 [some (.ref v0), some (.int v1), some (.int v2), some (.int (v3 &&& (((1 : Int32) <<< (x4 &&& 31)) ^^^ (-1)))), some (.int v4), some (.int (v5 + 1))] [] w3 Q)))) :
    zRn X d kc ks MX12_aheadOf 39 [some (.ref v0), some (.int v1), some (.int v2), some (.int v3), some (.int v4), some (.int v5)] [] w Q := by
  refine z_iload v5 dX12_aheadOf_39 rfl ?_
  refine z_aload_n v0 dX12_aheadOf_41 rfl rfl ?_
  refine z_iload_n v1 dX12_aheadOf_42 rfl rfl ?_
  refine zq_VI (N := MX12_many) (As := [.int v1]) m_X12_76 dX12_aheadOf_43 rfl rfl (Nat.le_of_ble_eq_true rfl) h (fun x2 w1 h => ?_)
  refine z_icmp_ge 71 dX12_aheadOf_46 rfl (fun hc => ?_) (fun hc => ?_)
  · rw [if_pos hc] at h
    refine z_iinc (i := 4) v4 (v4 + 1) dX12_aheadOf_71 rfl rfl (by decide) rfl ?_
    refine z_goto 19 dX12_aheadOf_74 rfl ?_
    exact zRn.weak h (zLe_of [true, true, true, true, true, false] (And.intro rfl (And.intro rfl (And.intro rfl (And.intro rfl (And.intro rfl (And.intro rfl (trivial))))))))
  · rw [if_neg hc] at h
    refine z_iload_n v3 dX12_aheadOf_49 rfl rfl ?_
    refine z_iconst 1 dX12_aheadOf_50 rfl ?_
    refine z_aload_n v0 dX12_aheadOf_51 rfl rfl ?_
    refine z_iload_n v1 dX12_aheadOf_52 rfl rfl ?_
    refine z_iload v4 dX12_aheadOf_53 rfl ?_
    refine z_iload v5 dX12_aheadOf_55 rfl ?_
    refine zq_VI (N := MX12_rowAt) (As := [.int v1, .int v4, .int v5]) m_X12_291 dX12_aheadOf_57 rfl rfl (Nat.le_of_ble_eq_true rfl) h (fun x4 w3 h => ?_)
    refine z_ishl dX12_aheadOf_60 ?_
    refine z_iconst (-1) dX12_aheadOf_61 rfl ?_
    refine z_ixor dX12_aheadOf_62 ?_
    refine z_iand dX12_aheadOf_63 ?_
    refine z_istore_n (i := 3) dX12_aheadOf_64 rfl (by decide) rfl ?_
    refine z_iinc (i := 5) v5 (v5 + 1) dX12_aheadOf_65 rfl rfl (by decide) rfl ?_
    refine z_goto 39 dX12_aheadOf_68 rfl ?_
    exact h
theorem eX12_aheadOf {X : zX} {d kc ks : Nat} {w : zW} {Q : Option Value → zW → Prop} (p0 : Nat) (a1 : Int32) (a2 : Int32) (h : zRn X d kc ks MX12_aheadOf 0 [some (.ref p0), some (.int a1), some (.int a2), none, none, none] [] w Q) : zEv X d kc ks MX12_aheadOf [.ref p0, .int a1, .int a2] w Q :=
  zEv.of (by decide) (Nat.le_of_ble_eq_true rfl) (Or.inr (by simp [Value.category])) h
set_option maxRecDepth 100000 in
set_option maxHeartbeats 4000000 in
theorem bX12_rowsAre_0 {X : zX} {d kc ks : Nat} {w : zW} {Q : Option Value → zW → Prop} (p0 : Nat) (a1 : Int32) (a2 : Int32)
    (h : zIs w p0 11 ∧ zCallI X d MX12_isOrder [.ref p0, .int a1] w (fun x2 w1 => if x2 = 0 then (Q (some (.int (-2))) w1) else (zCallI X d MX12_in [.long ((a2 : Int32).toInt64), .long 0, .long 2] w1 (fun x4 w3 => if x4 = 0 then (Q (some (.int (-2))) w3) else (if a2 = 0 then (zIs w3 p0 11 ∧ zCallI X d MX12_areLines [.ref p0, .int a1] w3 (fun x10 w9 => zRn X d kc ks MX12_rowsAre 53 [none, none, none, none] [.int x10] w9 Q)) else (if a2 = 1 then (zIs w3 p0 11 ∧ zCallI X d MX12_isRealizer [.ref p0, .int a1] w3 (fun x8 w7 => zRn X d kc ks MX12_rowsAre 53 [none, none, none, none] [.int x8] w7 Q)) else (zIs w3 p0 11 ∧ zCallI X d MX12_areUnlike [.ref p0, .int a1] w3 (fun x6 w5 => zRn X d kc ks MX12_rowsAre 53 [none, none, none, none] [.int x6] w5 Q)))))))) :
    zRn X d kc ks MX12_rowsAre 0 [some (.ref p0), some (.int a1), some (.int a2), none] [] w Q := by
  refine z_aload_n p0 dX12_rowsAre_0 rfl rfl ?_
  refine z_iload_n a1 dX12_rowsAre_1 rfl rfl ?_
  refine zq_VI (N := MX12_isOrder) (As := [.int a1]) m_X12_80 dX12_rowsAre_2 rfl rfl (Nat.le_of_ble_eq_true rfl) h (fun x2 w1 h => ?_)
  refine z_if_eq 20 dX12_rowsAre_5 rfl (fun hc => ?_) (fun hc => ?_)
  · rw [if_pos hc] at h
    refine z_bipush (-2) dX12_rowsAre_20 rfl ?_
    exact z_ireturn .int dX12_rowsAre_22 rfl rfl h
  · rw [if_neg hc] at h
    refine z_iload_n a2 dX12_rowsAre_8 rfl rfl ?_
    refine z_i2l dX12_rowsAre_9 ?_
    refine z_lconst 0 dX12_rowsAre_10 rfl ?_
    refine z_ldc2 2 g_1308 dX12_rowsAre_11 ?_
    refine zq_SI (N := MX12_in) (As := [.long ((a2 : Int32).toInt64), .long 0, .long 2]) m_X12_64 dX12_rowsAre_14 rfl rfl (Nat.le_of_ble_eq_true rfl) h (fun x4 w3 h => ?_)
    refine z_if_ne 23 dX12_rowsAre_17 rfl (fun hc => ?_) (fun hc => ?_)
    · rw [if_neg hc] at h
      refine z_iload_n a2 dX12_rowsAre_23 rfl rfl ?_
      refine z_if_ne 35 dX12_rowsAre_24 rfl (fun hc => ?_) (fun hc => ?_)
      · rw [if_neg hc] at h
        refine z_iload_n a2 dX12_rowsAre_35 rfl rfl ?_
        refine z_iconst 1 dX12_rowsAre_36 rfl ?_
        refine z_icmp_ne 48 dX12_rowsAre_37 rfl (fun hc => ?_) (fun hc => ?_)
        · rw [if_neg hc] at h
          refine z_aload_n p0 dX12_rowsAre_48 rfl rfl ?_
          refine z_iload_n a1 dX12_rowsAre_49 rfl rfl ?_
          refine zq_VI (N := MX12_areUnlike) (As := [.int a1]) m_X12_339 dX12_rowsAre_50 rfl rfl (Nat.le_of_ble_eq_true rfl) h (fun x6 w5 h => ?_)
          exact zRn.weak h (zLe_of [false, false, false, true] (And.intro rfl (And.intro rfl (And.intro rfl (And.intro rfl (trivial))))))
        · rw [if_pos hc] at h
          refine z_aload_n p0 dX12_rowsAre_40 rfl rfl ?_
          refine z_iload_n a1 dX12_rowsAre_41 rfl rfl ?_
          refine zq_VI (N := MX12_isRealizer) (As := [.int a1]) m_X12_336 dX12_rowsAre_42 rfl rfl (Nat.le_of_ble_eq_true rfl) h (fun x8 w7 h => ?_)
          refine z_goto 53 dX12_rowsAre_45 rfl ?_
          exact zRn.weak h (zLe_of [false, false, false, true] (And.intro rfl (And.intro rfl (And.intro rfl (And.intro rfl (trivial))))))
      · rw [if_pos hc] at h
        refine z_aload_n p0 dX12_rowsAre_27 rfl rfl ?_
        refine z_iload_n a1 dX12_rowsAre_28 rfl rfl ?_
        refine zq_VI (N := MX12_areLines) (As := [.int a1]) m_X12_333 dX12_rowsAre_29 rfl rfl (Nat.le_of_ble_eq_true rfl) h (fun x10 w9 h => ?_)
        refine z_goto 53 dX12_rowsAre_32 rfl ?_
        exact zRn.weak h (zLe_of [false, false, false, true] (And.intro rfl (And.intro rfl (And.intro rfl (And.intro rfl (trivial))))))
    · rw [if_pos hc] at h
      refine z_bipush (-2) dX12_rowsAre_20 rfl ?_
      exact z_ireturn .int dX12_rowsAre_22 rfl rfl h
set_option maxRecDepth 100000 in
set_option maxHeartbeats 4000000 in
theorem bX12_rowsAre_53 {X : zX} {d kc ks : Nat} {w : zW} {Q : Option Value → zW → Prop} (u0 : Int32)
    (h : if u0 = 0 then (Q (some (.int 0)) w) else (Q (some (.int 1)) w)) :
    zRn X d kc ks MX12_rowsAre 53 [none, none, none, none] [.int u0] w Q := by
  refine z_istore_n (i := 3) dX12_rowsAre_53 rfl (by decide) rfl ?_
  refine z_iload_n u0 dX12_rowsAre_54 rfl rfl ?_
  refine z_if_eq 62 dX12_rowsAre_55 rfl (fun hc => ?_) (fun hc => ?_)
  · rw [if_pos hc] at h
    refine z_iconst 0 dX12_rowsAre_62 rfl ?_
    exact z_ireturn .int dX12_rowsAre_63 rfl rfl h
  · rw [if_neg hc] at h
    refine z_iconst 1 dX12_rowsAre_58 rfl ?_
    refine z_goto 63 dX12_rowsAre_59 rfl ?_
    exact z_ireturn .int dX12_rowsAre_63 rfl rfl h
theorem eX12_rowsAre {X : zX} {d kc ks : Nat} {w : zW} {Q : Option Value → zW → Prop} (p0 : Nat) (a1 : Int32) (a2 : Int32) (h : zRn X d kc ks MX12_rowsAre 0 [some (.ref p0), some (.int a1), some (.int a2), none] [] w Q) : zEv X d kc ks MX12_rowsAre [.ref p0, .int a1, .int a2] w Q :=
  zEv.of (by decide) (Nat.le_of_ble_eq_true rfl) (Or.inr (by simp [Value.category])) h
set_option maxRecDepth 100000 in
set_option maxHeartbeats 4000000 in
theorem bX12_areLines_0 {X : zX} {d kc ks : Nat} {w : zW} {Q : Option Value → zW → Prop} (p0 : Nat) (a1 : Int32)
    (h : zRn X d kc ks MX12_areLines 2 [some (.ref p0), some (.int a1), some (.int 0)] [] w Q) :
    zRn X d kc ks MX12_areLines 0 [some (.ref p0), some (.int a1), none] [] w Q := by
  refine z_iconst 0 dX12_areLines_0 rfl ?_
  refine z_istore_n (i := 2) dX12_areLines_1 rfl (by decide) rfl ?_
  exact h
set_option maxRecDepth 100000 in
set_option maxHeartbeats 4000000 in
theorem bX12_areLines_2 {X : zX} {d kc ks : Nat} {w : zW} {Q : Option Value → zW → Prop} (v0 : Nat) (v1 : Int32) (v2 : Int32)
    (h : zIs w v0 11 ∧ zCallI X d MX12_rows [.ref v0, .int v1] w (fun x2 w1 => if x2 ≤ v2 then (Q (some (.int 1)) w1) else (zIs w1 v0 11 ∧ zCallI X d MX12_isLine [.ref v0, .int v1, .int v2] w1 (fun x4 w3 => if x4 = 0 then (Q (some (.int 0)) w3) else (zRn X d kc ks MX12_areLines 2 [some (.ref v0), some (.int v1), some (.int (v2 + 1))] [] w3 Q))))) :
    zRn X d kc ks MX12_areLines 2 [some (.ref v0), some (.int v1), some (.int v2)] [] w Q := by
  refine z_iload_n v2 dX12_areLines_2 rfl rfl ?_
  refine z_aload_n v0 dX12_areLines_3 rfl rfl ?_
  refine z_iload_n v1 dX12_areLines_4 rfl rfl ?_
  refine zq_VI (N := MX12_rows) (As := [.int v1]) m_X12_83 dX12_areLines_5 rfl rfl (Nat.le_of_ble_eq_true rfl) h (fun x2 w1 h => ?_)
  refine z_icmp_ge 28 dX12_areLines_8 rfl (fun hc => ?_) (fun hc => ?_)
  · rw [if_pos hc] at h
    refine z_iconst 1 dX12_areLines_28 rfl ?_
    exact z_ireturn .boolean dX12_areLines_29 rfl rfl h
  · rw [if_neg hc] at h
    refine z_aload_n v0 dX12_areLines_11 rfl rfl ?_
    refine z_iload_n v1 dX12_areLines_12 rfl rfl ?_
    refine z_iload_n v2 dX12_areLines_13 rfl rfl ?_
    refine zq_VI (N := MX12_isLine) (As := [.int v1, .int v2]) m_X12_298 dX12_areLines_14 rfl rfl (Nat.le_of_ble_eq_true rfl) h (fun x4 w3 h => ?_)
    refine z_if_ne 22 dX12_areLines_17 rfl (fun hc => ?_) (fun hc => ?_)
    · rw [if_neg hc] at h
      refine z_iinc (i := 2) v2 (v2 + 1) dX12_areLines_22 rfl rfl (by decide) rfl ?_
      refine z_goto 2 dX12_areLines_25 rfl ?_
      exact h
    · rw [if_pos hc] at h
      refine z_iconst 0 dX12_areLines_20 rfl ?_
      exact z_ireturn .boolean dX12_areLines_21 rfl rfl h
theorem eX12_areLines {X : zX} {d kc ks : Nat} {w : zW} {Q : Option Value → zW → Prop} (p0 : Nat) (a1 : Int32) (h : zRn X d kc ks MX12_areLines 0 [some (.ref p0), some (.int a1), none] [] w Q) : zEv X d kc ks MX12_areLines [.ref p0, .int a1] w Q :=
  zEv.of (by decide) (Nat.le_of_ble_eq_true rfl) (Or.inr (by simp [Value.category])) h
set_option maxRecDepth 100000 in
set_option maxHeartbeats 4000000 in
theorem bX12_isRealizer_0 {X : zX} {d kc ks : Nat} {w : zW} {Q : Option Value → zW → Prop} (p0 : Nat) (a1 : Int32)
    (h : zIs w p0 11 ∧ zCallI X d MX12_rows [.ref p0, .int a1] w (fun x2 w1 => if x2 ≤ 0 then (zRn X d kc ks MX12_isRealizer 20 [some (.ref p0), some (.int a1), none, none] [] w1 Q) else (zIs w1 p0 11 ∧ zCallI X d MX12_areLines [.ref p0, .int a1] w1 (fun x4 w3 => if x4 = 0 then (zRn X d kc ks MX12_isRealizer 20 [some (.ref p0), some (.int a1), none, none] [] w3 Q) else (zRn X d kc ks MX12_isRealizer 21 [some (.ref p0), some (.int a1), none, none] [.int 1] w3 Q))))) :
    zRn X d kc ks MX12_isRealizer 0 [some (.ref p0), some (.int a1), none, none] [] w Q := by
  refine z_aload_n p0 dX12_isRealizer_0 rfl rfl ?_
  refine z_iload_n a1 dX12_isRealizer_1 rfl rfl ?_
  refine zq_VI (N := MX12_rows) (As := [.int a1]) m_X12_83 dX12_isRealizer_2 rfl rfl (Nat.le_of_ble_eq_true rfl) h (fun x2 w1 h => ?_)
  refine z_if_le 20 dX12_isRealizer_5 rfl (fun hc => ?_) (fun hc => ?_)
  · rw [if_pos hc] at h
    exact h
  · rw [if_neg hc] at h
    refine z_aload_n p0 dX12_isRealizer_8 rfl rfl ?_
    refine z_iload_n a1 dX12_isRealizer_9 rfl rfl ?_
    refine zq_VI (N := MX12_areLines) (As := [.int a1]) m_X12_333 dX12_isRealizer_10 rfl rfl (Nat.le_of_ble_eq_true rfl) h (fun x4 w3 h => ?_)
    refine z_if_eq 20 dX12_isRealizer_13 rfl (fun hc => ?_) (fun hc => ?_)
    · rw [if_pos hc] at h
      exact h
    · rw [if_neg hc] at h
      refine z_iconst 1 dX12_isRealizer_16 rfl ?_
      refine z_goto 21 dX12_isRealizer_17 rfl ?_
      exact h
set_option maxRecDepth 100000 in
set_option maxHeartbeats 4000000 in
theorem bX12_isRealizer_20 {X : zX} {d kc ks : Nat} {w : zW} {Q : Option Value → zW → Prop} (v0 : Nat) (v1 : Int32)
    (h : zRn X d kc ks MX12_isRealizer 21 [some (.ref v0), some (.int v1), none, none] [.int 0] w Q) :
    zRn X d kc ks MX12_isRealizer 20 [some (.ref v0), some (.int v1), none, none] [] w Q := by
  refine z_iconst 0 dX12_isRealizer_20 rfl ?_
  exact h
set_option maxRecDepth 100000 in
set_option maxHeartbeats 4000000 in
theorem bX12_isRealizer_21 {X : zX} {d kc ks : Nat} {w : zW} {Q : Option Value → zW → Prop} (v0 : Nat) (v1 : Int32) (u0 : Int32)
    (h : zRn X d kc ks MX12_isRealizer 24 [some (.ref v0), some (.int v1), some (.int u0), some (.int 0)] [] w Q) :
    zRn X d kc ks MX12_isRealizer 21 [some (.ref v0), some (.int v1), none, none] [.int u0] w Q := by
  refine z_istore_n (i := 2) dX12_isRealizer_21 rfl (by decide) rfl ?_
  refine z_iconst 0 dX12_isRealizer_22 rfl ?_
  refine z_istore_n (i := 3) dX12_isRealizer_23 rfl (by decide) rfl ?_
  exact h
set_option maxRecDepth 100000 in
set_option maxHeartbeats 4000000 in
theorem bX12_isRealizer_24 {X : zX} {d kc ks : Nat} {w : zW} {Q : Option Value → zW → Prop} (v0 : Nat) (v1 : Int32) (v2 : Int32) (v3 : Int32)
    (h : zIs w v0 11 ∧ zCallI X d MX12_many [.ref v0, .int v1] w (fun x2 w1 => if x2 ≤ v3 then (zBool v2 ∧ Q (some (.int v2)) w1) else (if v2 = 0 then (zBool v2 ∧ Q (some (.int v2)) w1) else (zIs w1 v0 11 ∧ zCallI X d MX12_aheadOf [.ref v0, .int v1, .int v3] w1 (fun x4 w3 => zIs w3 v0 11 ∧ zCallI X d MX12_under [.ref v0, .int v1, .int v3] w3 (fun x6 w5 => if x4 = x6 then (zRn X d kc ks MX12_isRealizer 57 [some (.ref v0), some (.int v1), none, some (.int v3)] [.int 1] w5 Q) else (zRn X d kc ks MX12_isRealizer 57 [some (.ref v0), some (.int v1), none, some (.int v3)] [.int 0] w5 Q))))))) :
    zRn X d kc ks MX12_isRealizer 24 [some (.ref v0), some (.int v1), some (.int v2), some (.int v3)] [] w Q := by
  refine z_iload_n v3 dX12_isRealizer_24 rfl rfl ?_
  refine z_aload_n v0 dX12_isRealizer_25 rfl rfl ?_
  refine z_iload_n v1 dX12_isRealizer_26 rfl rfl ?_
  refine zq_VI (N := MX12_many) (As := [.int v1]) m_X12_76 dX12_isRealizer_27 rfl rfl (Nat.le_of_ble_eq_true rfl) h (fun x2 w1 h => ?_)
  refine z_icmp_ge 64 dX12_isRealizer_30 rfl (fun hc => ?_) (fun hc => ?_)
  · rw [if_pos hc] at h
    refine z_iload_n v2 dX12_isRealizer_64 rfl rfl ?_
    exact z_ireturn .boolean dX12_isRealizer_65 rfl (zBool_n h.1) h.2
  · rw [if_neg hc] at h
    refine z_iload_n v2 dX12_isRealizer_33 rfl rfl ?_
    refine z_if_eq 64 dX12_isRealizer_34 rfl (fun hc => ?_) (fun hc => ?_)
    · rw [if_pos hc] at h
      refine z_iload_n v2 dX12_isRealizer_64 rfl rfl ?_
      exact z_ireturn .boolean dX12_isRealizer_65 rfl (zBool_n h.1) h.2
    · rw [if_neg hc] at h
      refine z_aload_n v0 dX12_isRealizer_37 rfl rfl ?_
      refine z_iload_n v1 dX12_isRealizer_38 rfl rfl ?_
      refine z_iload_n v3 dX12_isRealizer_39 rfl rfl ?_
      refine zq_VI (N := MX12_aheadOf) (As := [.int v1, .int v3]) m_X12_330 dX12_isRealizer_40 rfl rfl (Nat.le_of_ble_eq_true rfl) h (fun x4 w3 h => ?_)
      refine z_aload_n v0 dX12_isRealizer_43 rfl rfl ?_
      refine z_iload_n v1 dX12_isRealizer_44 rfl rfl ?_
      refine z_iload_n v3 dX12_isRealizer_45 rfl rfl ?_
      refine zq_VI (N := MX12_under) (As := [.int v1, .int v3]) m_X12_86 dX12_isRealizer_46 rfl rfl (Nat.le_of_ble_eq_true rfl) h (fun x6 w5 h => ?_)
      refine z_icmp_ne 56 dX12_isRealizer_49 rfl (fun hc => ?_) (fun hc => ?_)
      · rw [if_neg hc] at h
        refine z_iconst 0 dX12_isRealizer_56 rfl ?_
        exact zRn.weak h (zLe_of [true, true, false, true] (And.intro rfl (And.intro rfl (And.intro rfl (And.intro rfl (trivial))))))
      · rw [if_pos hc] at h
        refine z_iconst 1 dX12_isRealizer_52 rfl ?_
        refine z_goto 57 dX12_isRealizer_53 rfl ?_
        exact zRn.weak h (zLe_of [true, true, false, true] (And.intro rfl (And.intro rfl (And.intro rfl (And.intro rfl (trivial))))))
set_option maxRecDepth 100000 in
set_option maxHeartbeats 4000000 in
theorem bX12_isRealizer_57 {X : zX} {d kc ks : Nat} {w : zW} {Q : Option Value → zW → Prop} (v0 : Nat) (v1 : Int32) (v3 : Int32) (u0 : Int32)
    (h : zRn X d kc ks MX12_isRealizer 24 [some (.ref v0), some (.int v1), some (.int u0), some (.int (v3 + 1))] [] w Q) :
    zRn X d kc ks MX12_isRealizer 57 [some (.ref v0), some (.int v1), none, some (.int v3)] [.int u0] w Q := by
  refine z_istore_n (i := 2) dX12_isRealizer_57 rfl (by decide) rfl ?_
  refine z_iinc (i := 3) v3 (v3 + 1) dX12_isRealizer_58 rfl rfl (by decide) rfl ?_
  refine z_goto 24 dX12_isRealizer_61 rfl ?_
  exact h
theorem eX12_isRealizer {X : zX} {d kc ks : Nat} {w : zW} {Q : Option Value → zW → Prop} (p0 : Nat) (a1 : Int32) (h : zRn X d kc ks MX12_isRealizer 0 [some (.ref p0), some (.int a1), none, none] [] w Q) : zEv X d kc ks MX12_isRealizer [.ref p0, .int a1] w Q :=
  zEv.of (by decide) (Nat.le_of_ble_eq_true rfl) (Or.inr (by simp [Value.category])) h
set_option maxRecDepth 100000 in
set_option maxHeartbeats 4000000 in
theorem bX12_areUnlike_0 {X : zX} {d kc ks : Nat} {w : zW} {Q : Option Value → zW → Prop} (p0 : Nat) (a1 : Int32)
    (h : zRn X d kc ks MX12_areUnlike 2 [some (.ref p0), some (.int a1), some (.int 0), none, none, none] [] w Q) :
    zRn X d kc ks MX12_areUnlike 0 [some (.ref p0), some (.int a1), none, none, none, none] [] w Q := by
  refine z_iconst 0 dX12_areUnlike_0 rfl ?_
  refine z_istore_n (i := 2) dX12_areUnlike_1 rfl (by decide) rfl ?_
  exact h
set_option maxRecDepth 100000 in
set_option maxHeartbeats 4000000 in
theorem bX12_areUnlike_2 {X : zX} {d kc ks : Nat} {w : zW} {Q : Option Value → zW → Prop} (v0 : Nat) (v1 : Int32) (v2 : Int32)
    (h : zIs w v0 11 ∧ zCallI X d MX12_rows [.ref v0, .int v1] w (fun x2 w1 => if x2 ≤ v2 then (Q (some (.int 1)) w1) else (zRn X d kc ks MX12_areUnlike 13 [some (.ref v0), some (.int v1), some (.int v2), some (.int 0), none, none] [] w1 Q))) :
    zRn X d kc ks MX12_areUnlike 2 [some (.ref v0), some (.int v1), some (.int v2), none, none, none] [] w Q := by
  refine z_iload_n v2 dX12_areUnlike_2 rfl rfl ?_
  refine z_aload_n v0 dX12_areUnlike_3 rfl rfl ?_
  refine z_iload_n v1 dX12_areUnlike_4 rfl rfl ?_
  refine zq_VI (N := MX12_rows) (As := [.int v1]) m_X12_83 dX12_areUnlike_5 rfl rfl (Nat.le_of_ble_eq_true rfl) h (fun x2 w1 h => ?_)
  refine z_icmp_ge 90 dX12_areUnlike_8 rfl (fun hc => ?_) (fun hc => ?_)
  · rw [if_pos hc] at h
    refine z_iconst 1 dX12_areUnlike_90 rfl ?_
    exact z_ireturn .boolean dX12_areUnlike_91 rfl rfl h
  · rw [if_neg hc] at h
    refine z_iconst 0 dX12_areUnlike_11 rfl ?_
    refine z_istore_n (i := 3) dX12_areUnlike_12 rfl (by decide) rfl ?_
    exact h
set_option maxRecDepth 100000 in
set_option maxHeartbeats 4000000 in
theorem bX12_areUnlike_13 {X : zX} {d kc ks : Nat} {w : zW} {Q : Option Value → zW → Prop} (v0 : Nat) (v1 : Int32) (v2 : Int32) (v3 : Int32)
    (h : if v2 ≤ v3 then (zRn X d kc ks MX12_areUnlike 2 [some (.ref v0), some (.int v1), some (.int (v2 + 1)), none, none, none] [] w Q) else (zRn X d kc ks MX12_areUnlike 24 [some (.ref v0), some (.int v1), some (.int v2), some (.int v3), some (.int 1), some (.int 0)] [] w Q)) :
    zRn X d kc ks MX12_areUnlike 13 [some (.ref v0), some (.int v1), some (.int v2), some (.int v3), none, none] [] w Q := by
  refine z_iload_n v3 dX12_areUnlike_13 rfl rfl ?_
  refine z_iload_n v2 dX12_areUnlike_14 rfl rfl ?_
  refine z_icmp_ge 84 dX12_areUnlike_15 rfl (fun hc => ?_) (fun hc => ?_)
  · rw [if_pos hc] at h
    refine z_iinc (i := 2) v2 (v2 + 1) dX12_areUnlike_84 rfl rfl (by decide) rfl ?_
    refine z_goto 2 dX12_areUnlike_87 rfl ?_
    exact zRn.weak h (zLe_of [true, true, true, false, true, true] (And.intro rfl (And.intro rfl (And.intro rfl (And.intro rfl (And.intro rfl (And.intro rfl (trivial))))))))
  · rw [if_neg hc] at h
    refine z_iconst 1 dX12_areUnlike_18 rfl ?_
    refine z_istore (i := 4) dX12_areUnlike_19 (by decide) rfl ?_
    refine z_iconst 0 dX12_areUnlike_21 rfl ?_
    refine z_istore (i := 5) dX12_areUnlike_22 (by decide) rfl ?_
    exact h
set_option maxRecDepth 100000 in
set_option maxHeartbeats 4000000 in
theorem bX12_areUnlike_24 {X : zX} {d kc ks : Nat} {w : zW} {Q : Option Value → zW → Prop} (v0 : Nat) (v1 : Int32) (v2 : Int32) (v3 : Int32) (v4 : Int32) (v5 : Int32)
    (h : zIs w v0 11 ∧ zCallI X d MX12_many [.ref v0, .int v1] w (fun x2 w1 => if x2 ≤ v5 then (if v4 = 0 then (zRn X d kc ks MX12_areUnlike 13 [some (.ref v0), some (.int v1), some (.int v2), some (.int (v3 + 1)), none, none] [] w1 Q) else (Q (some (.int 0)) w1)) else (if v4 = 0 then (zRn X d kc ks MX12_areUnlike 62 [some (.ref v0), some (.int v1), some (.int v2), some (.int v3), none, some (.int v5)] [] w1 Q) else (zIs w1 v0 11 ∧ zCallI X d MX12_rowAt [.ref v0, .int v1, .int v2, .int v5] w1 (fun x4 w3 => zIs w3 v0 11 ∧ zCallI X d MX12_rowAt [.ref v0, .int v1, .int v3, .int v5] w3 (fun x6 w5 => if x4 = x6 then (zRn X d kc ks MX12_areUnlike 63 [some (.ref v0), some (.int v1), some (.int v2), some (.int v3), none, some (.int v5)] [.int 1] w5 Q) else (zRn X d kc ks MX12_areUnlike 62 [some (.ref v0), some (.int v1), some (.int v2), some (.int v3), none, some (.int v5)] [] w5 Q))))))) :
    zRn X d kc ks MX12_areUnlike 24 [some (.ref v0), some (.int v1), some (.int v2), some (.int v3), some (.int v4), some (.int v5)] [] w Q := by
  refine z_iload v5 dX12_areUnlike_24 rfl ?_
  refine z_aload_n v0 dX12_areUnlike_26 rfl rfl ?_
  refine z_iload_n v1 dX12_areUnlike_27 rfl rfl ?_
  refine zq_VI (N := MX12_many) (As := [.int v1]) m_X12_76 dX12_areUnlike_28 rfl rfl (Nat.le_of_ble_eq_true rfl) h (fun x2 w1 h => ?_)
  refine z_icmp_ge 71 dX12_areUnlike_31 rfl (fun hc => ?_) (fun hc => ?_)
  · rw [if_pos hc] at h
    refine z_iload v4 dX12_areUnlike_71 rfl ?_
    refine z_if_eq 78 dX12_areUnlike_73 rfl (fun hc => ?_) (fun hc => ?_)
    · rw [if_pos hc] at h
      refine z_iinc (i := 3) v3 (v3 + 1) dX12_areUnlike_78 rfl rfl (by decide) rfl ?_
      refine z_goto 13 dX12_areUnlike_81 rfl ?_
      exact zRn.weak h (zLe_of [true, true, true, true, false, false] (And.intro rfl (And.intro rfl (And.intro rfl (And.intro rfl (And.intro rfl (And.intro rfl (trivial))))))))
    · rw [if_neg hc] at h
      refine z_iconst 0 dX12_areUnlike_76 rfl ?_
      exact z_ireturn .boolean dX12_areUnlike_77 rfl rfl h
  · rw [if_neg hc] at h
    refine z_iload v4 dX12_areUnlike_34 rfl ?_
    refine z_if_eq 62 dX12_areUnlike_36 rfl (fun hc => ?_) (fun hc => ?_)
    · rw [if_pos hc] at h
      exact zRn.weak h (zLe_of [true, true, true, true, false, true] (And.intro rfl (And.intro rfl (And.intro rfl (And.intro rfl (And.intro rfl (And.intro rfl (trivial))))))))
    · rw [if_neg hc] at h
      refine z_aload_n v0 dX12_areUnlike_39 rfl rfl ?_
      refine z_iload_n v1 dX12_areUnlike_40 rfl rfl ?_
      refine z_iload_n v2 dX12_areUnlike_41 rfl rfl ?_
      refine z_iload v5 dX12_areUnlike_42 rfl ?_
      refine zq_VI (N := MX12_rowAt) (As := [.int v1, .int v2, .int v5]) m_X12_291 dX12_areUnlike_44 rfl rfl (Nat.le_of_ble_eq_true rfl) h (fun x4 w3 h => ?_)
      refine z_aload_n v0 dX12_areUnlike_47 rfl rfl ?_
      refine z_iload_n v1 dX12_areUnlike_48 rfl rfl ?_
      refine z_iload_n v3 dX12_areUnlike_49 rfl rfl ?_
      refine z_iload v5 dX12_areUnlike_50 rfl ?_
      refine zq_VI (N := MX12_rowAt) (As := [.int v1, .int v3, .int v5]) m_X12_291 dX12_areUnlike_52 rfl rfl (Nat.le_of_ble_eq_true rfl) h (fun x6 w5 h => ?_)
      refine z_icmp_ne 62 dX12_areUnlike_55 rfl (fun hc => ?_) (fun hc => ?_)
      · rw [if_neg hc] at h
        exact zRn.weak h (zLe_of [true, true, true, true, false, true] (And.intro rfl (And.intro rfl (And.intro rfl (And.intro rfl (And.intro rfl (And.intro rfl (trivial))))))))
      · rw [if_pos hc] at h
        refine z_iconst 1 dX12_areUnlike_58 rfl ?_
        refine z_goto 63 dX12_areUnlike_59 rfl ?_
        exact zRn.weak h (zLe_of [true, true, true, true, false, true] (And.intro rfl (And.intro rfl (And.intro rfl (And.intro rfl (And.intro rfl (And.intro rfl (trivial))))))))
set_option maxRecDepth 100000 in
set_option maxHeartbeats 4000000 in
theorem bX12_areUnlike_62 {X : zX} {d kc ks : Nat} {w : zW} {Q : Option Value → zW → Prop} (v0 : Nat) (v1 : Int32) (v2 : Int32) (v3 : Int32) (v5 : Int32)
    (h : zRn X d kc ks MX12_areUnlike 63 [some (.ref v0), some (.int v1), some (.int v2), some (.int v3), none, some (.int v5)] [.int 0] w Q) :
    zRn X d kc ks MX12_areUnlike 62 [some (.ref v0), some (.int v1), some (.int v2), some (.int v3), none, some (.int v5)] [] w Q := by
  refine z_iconst 0 dX12_areUnlike_62 rfl ?_
  exact h
set_option maxRecDepth 100000 in
set_option maxHeartbeats 4000000 in
theorem bX12_areUnlike_63 {X : zX} {d kc ks : Nat} {w : zW} {Q : Option Value → zW → Prop} (v0 : Nat) (v1 : Int32) (v2 : Int32) (v3 : Int32) (v5 : Int32) (u0 : Int32)
    (h : zRn X d kc ks MX12_areUnlike 24 [some (.ref v0), some (.int v1), some (.int v2), some (.int v3), some (.int u0), some (.int (v5 + 1))] [] w Q) :
    zRn X d kc ks MX12_areUnlike 63 [some (.ref v0), some (.int v1), some (.int v2), some (.int v3), none, some (.int v5)] [.int u0] w Q := by
  refine z_istore (i := 4) dX12_areUnlike_63 (by decide) rfl ?_
  refine z_iinc (i := 5) v5 (v5 + 1) dX12_areUnlike_65 rfl rfl (by decide) rfl ?_
  refine z_goto 24 dX12_areUnlike_68 rfl ?_
  exact h
theorem eX12_areUnlike {X : zX} {d kc ks : Nat} {w : zW} {Q : Option Value → zW → Prop} (p0 : Nat) (a1 : Int32) (h : zRn X d kc ks MX12_areUnlike 0 [some (.ref p0), some (.int a1), none, none, none, none] [] w Q) : zEv X d kc ks MX12_areUnlike [.ref p0, .int a1] w Q :=
  zEv.of (by decide) (Nat.le_of_ble_eq_true rfl) (Or.inr (by simp [Value.category])) h
set_option maxRecDepth 100000 in
set_option maxHeartbeats 4000000 in
theorem bX12_realizes_0 {X : zX} {d kc ks : Nat} {w : zW} {Q : Option Value → zW → Prop} (p0 : Nat) (a1 : Int32) (a2 : Int32) (a3 : Int32)
    (h : zIs w p0 11 ∧ zCallI X d MX12_isOrder [.ref p0, .int a1] w (fun x2 w1 => if x2 = 0 then (Q (some (.int (-2))) w1) else (zCallI X d MX12_in [.long ((a2 : Int32).toInt64), .long 1, .long 4] w1 (fun x4 w3 => if x4 = 0 then (Q (some (.int (-2))) w3) else (zCallI X d MX12_in [.long ((a3 : Int32).toInt64), .long 1, .long 100000] w3 (fun x6 w5 => if x6 = 0 then (Q (some (.int (-2))) w5) else (zIs w5 p0 11 ∧ zCallI X d MX12_sought [.ref p0, .int a1, .int a2, .int a3] w5 (fun x8 w7 => if x8 = 1 then (zIs w7 p0 11 ∧ zCallV X d MX12_remembers [.ref p0] w7 (fun w9 => zRn X d kc ks MX12_realizes 70 [some (.ref p0), some (.int a1), some (.int a2), none, none, some (.int 9), none, none] [] w9 Q)) else (if x8 = 0 then (Q (some (.int (-1))) w7) else (Q (some (.int (-3))) w7)))))))))) :
    zRn X d kc ks MX12_realizes 0 [some (.ref p0), some (.int a1), some (.int a2), some (.int a3), none, none, none, none] [] w Q := by
  refine z_aload_n p0 dX12_realizes_0 rfl rfl ?_
  refine z_iload_n a1 dX12_realizes_1 rfl rfl ?_
  refine zq_VI (N := MX12_isOrder) (As := [.int a1]) m_X12_80 dX12_realizes_2 rfl rfl (Nat.le_of_ble_eq_true rfl) h (fun x2 w1 h => ?_)
  refine z_if_eq 32 dX12_realizes_5 rfl (fun hc => ?_) (fun hc => ?_)
  · rw [if_pos hc] at h
    refine z_bipush (-2) dX12_realizes_32 rfl ?_
    exact z_ireturn .int dX12_realizes_34 rfl rfl h
  · rw [if_neg hc] at h
    refine z_iload_n a2 dX12_realizes_8 rfl rfl ?_
    refine z_i2l dX12_realizes_9 ?_
    refine z_lconst 1 dX12_realizes_10 rfl ?_
    refine z_ldc2 4 g_1509 dX12_realizes_11 ?_
    refine zq_SI (N := MX12_in) (As := [.long ((a2 : Int32).toInt64), .long 1, .long 4]) m_X12_64 dX12_realizes_14 rfl rfl (Nat.le_of_ble_eq_true rfl) h (fun x4 w3 h => ?_)
    refine z_if_eq 32 dX12_realizes_17 rfl (fun hc => ?_) (fun hc => ?_)
    · rw [if_pos hc] at h
      refine z_bipush (-2) dX12_realizes_32 rfl ?_
      exact z_ireturn .int dX12_realizes_34 rfl rfl h
    · rw [if_neg hc] at h
      refine z_iload_n a3 dX12_realizes_20 rfl rfl ?_
      refine z_i2l dX12_realizes_21 ?_
      refine z_lconst 1 dX12_realizes_22 rfl ?_
      refine z_ldc2 100000 g_1680 dX12_realizes_23 ?_
      refine zq_SI (N := MX12_in) (As := [.long ((a3 : Int32).toInt64), .long 1, .long 100000]) m_X12_64 dX12_realizes_26 rfl rfl (Nat.le_of_ble_eq_true rfl) h (fun x6 w5 h => ?_)
      refine z_if_ne 35 dX12_realizes_29 rfl (fun hc => ?_) (fun hc => ?_)
      · rw [if_neg hc] at h
        refine z_aload_n p0 dX12_realizes_35 rfl rfl ?_
        refine z_iload_n a1 dX12_realizes_36 rfl rfl ?_
        refine z_iload_n a2 dX12_realizes_37 rfl rfl ?_
        refine z_iload_n a3 dX12_realizes_38 rfl rfl ?_
        refine zq_VI (N := MX12_sought) (As := [.int a1, .int a2, .int a3]) m_X12_358 dX12_realizes_39 rfl rfl (Nat.le_of_ble_eq_true rfl) h (fun x8 w7 h => ?_)
        refine z_istore (i := 4) dX12_realizes_42 (by decide) rfl ?_
        refine z_iload x8 dX12_realizes_44 rfl ?_
        refine z_iconst 1 dX12_realizes_46 rfl ?_
        refine z_icmp_eq 62 dX12_realizes_47 rfl (fun hc => ?_) (fun hc => ?_)
        · rw [if_pos hc] at h
          refine z_aload_n p0 dX12_realizes_62 rfl rfl ?_
          refine zq_VV (N := MX12_remembers) (As := []) m_X12_113 dX12_realizes_63 rfl rfl (Nat.le_of_ble_eq_true rfl) h (fun w9 h => ?_)
          refine z_bipush 9 dX12_realizes_66 rfl ?_
          refine z_istore (i := 5) dX12_realizes_68 (by decide) rfl ?_
          exact zRn.weak h (zLe_of [true, true, true, false, false, true, true, true] (And.intro rfl (And.intro rfl (And.intro rfl (And.intro rfl (And.intro rfl (And.intro rfl (And.intro rfl (And.intro rfl (trivial))))))))))
        · rw [if_neg hc] at h
          refine z_iload x8 dX12_realizes_50 rfl ?_
          refine z_if_ne 59 dX12_realizes_52 rfl (fun hc => ?_) (fun hc => ?_)
          · rw [if_neg hc] at h
            refine z_bipush (-3) dX12_realizes_59 rfl ?_
            exact z_ireturn .int dX12_realizes_61 rfl rfl h
          · rw [if_pos hc] at h
            refine z_iconst (-1) dX12_realizes_55 rfl ?_
            refine z_goto 61 dX12_realizes_56 rfl ?_
            exact z_ireturn .int dX12_realizes_61 rfl rfl h
      · rw [if_pos hc] at h
        refine z_bipush (-2) dX12_realizes_32 rfl ?_
        exact z_ireturn .int dX12_realizes_34 rfl rfl h
set_option maxRecDepth 100000 in
set_option maxHeartbeats 4000000 in
theorem bX12_realizes_70 {X : zX} {d kc ks : Nat} {w : zW} {Q : Option Value → zW → Prop} (v0 : Nat) (v1 : Int32) (v2 : Int32) (v5 : Int32)
    (h : if 58 ≤ v5 then (zIs w v0 11 ∧ zCallV X d MX12_lays [.ref v0, .int v1, .int 9, .int v2] w (fun w1 => zRn X d kc ks MX12_realizes 102 [some (.ref v0), some (.int v1), some (.int v2), none, none, some (.int 0), none, none] [] w1 Q)) else (zIs w v0 11 ∧ zCallV X d MX12_lays [.ref v0, .int v1, .int v5, .int 0] w (fun w2 => zRn X d kc ks MX12_realizes 70 [some (.ref v0), some (.int v1), some (.int v2), none, none, some (.int (v5 + 1)), none, none] [] w2 Q))) :
    zRn X d kc ks MX12_realizes 70 [some (.ref v0), some (.int v1), some (.int v2), none, none, some (.int v5), none, none] [] w Q := by
  refine z_iload v5 dX12_realizes_70 rfl ?_
  refine z_bipush 58 dX12_realizes_72 rfl ?_
  refine z_icmp_ge 91 dX12_realizes_74 rfl (fun hc => ?_) (fun hc => ?_)
  · rw [if_pos hc] at h
    refine z_aload_n v0 dX12_realizes_91 rfl rfl ?_
    refine z_iload_n v1 dX12_realizes_92 rfl rfl ?_
    refine z_bipush 9 dX12_realizes_93 rfl ?_
    refine z_iload_n v2 dX12_realizes_95 rfl rfl ?_
    refine zq_VV (N := MX12_lays) (As := [.int v1, .int 9, .int v2]) m_X12_109 dX12_realizes_96 rfl rfl (Nat.le_of_ble_eq_true rfl) h (fun w1 h => ?_)
    refine z_iconst 0 dX12_realizes_99 rfl ?_
    refine z_istore (i := 5) dX12_realizes_100 (by decide) rfl ?_
    exact h
  · rw [if_neg hc] at h
    refine z_aload_n v0 dX12_realizes_77 rfl rfl ?_
    refine z_iload_n v1 dX12_realizes_78 rfl rfl ?_
    refine z_iload v5 dX12_realizes_79 rfl ?_
    refine z_iconst 0 dX12_realizes_81 rfl ?_
    refine zq_VV (N := MX12_lays) (As := [.int v1, .int v5, .int 0]) m_X12_109 dX12_realizes_82 rfl rfl (Nat.le_of_ble_eq_true rfl) h (fun w2 h => ?_)
    refine z_iinc (i := 5) v5 (v5 + 1) dX12_realizes_85 rfl rfl (by decide) rfl ?_
    refine z_goto 70 dX12_realizes_88 rfl ?_
    exact h
set_option maxRecDepth 100000 in
set_option maxHeartbeats 4000000 in
theorem bX12_realizes_102 {X : zX} {d kc ks : Nat} {w : zW} {Q : Option Value → zW → Prop} (v0 : Nat) (v1 : Int32) (v2 : Int32) (v5 : Int32)
    (h : if v2 ≤ v5 then (∃ x1, zfI w v0 11 23 = some x1 ∧ (zIs w v0 11 ∧ zCallI X d MX12_done [.ref v0, .int x1] w (fun x3 w2 => Q (some (.int x3)) w2))) else (∃ x4, zfI w v0 11 21 = some x4 ∧ (∃ r5, zfR w v0 11 24 = some r5 ∧ (zIs w v0 11 ∧ zCallV X d MX12_laysPlace [.ref v0, .int v1, .int v5, .int x4, .ref r5] w (fun w6 => zIs w6 v0 11 ∧ zCallI X d MX12_laysRow [.ref v0, .int v1, .int v5] w6 (fun x8 w7 => zRn X d kc ks MX12_realizes 135 [some (.ref v0), some (.int v1), some (.int v2), none, none, some (.int v5), none, some (.int 0)] [] w7 Q)))))) :
    zRn X d kc ks MX12_realizes 102 [some (.ref v0), some (.int v1), some (.int v2), none, none, some (.int v5), none, none] [] w Q := by
  refine z_iload v5 dX12_realizes_102 rfl ?_
  refine z_iload_n v2 dX12_realizes_104 rfl rfl ?_
  refine z_icmp_ge 180 dX12_realizes_105 rfl (fun hc => ?_) (fun hc => ?_)
  · rw [if_pos hc] at h
    refine z_aload_n v0 dX12_realizes_180 rfl rfl ?_
    refine z_aload_n v0 dX12_realizes_181 rfl rfl ?_
    obtain ⟨x1, e, h⟩ := h
    refine zq_fI f_X12_342 dX12_realizes_182 e ?_
    refine zq_VI (N := MX12_done) (As := [.int x1]) m_X12_202 dX12_realizes_185 rfl rfl (Nat.le_of_ble_eq_true rfl) h (fun x3 w2 h => ?_)
    exact z_ireturn .int dX12_realizes_188 rfl rfl h
  · rw [if_neg hc] at h
    refine z_aload_n v0 dX12_realizes_108 rfl rfl ?_
    refine z_iload_n v1 dX12_realizes_109 rfl rfl ?_
    refine z_iload v5 dX12_realizes_110 rfl ?_
    refine z_aload_n v0 dX12_realizes_112 rfl rfl ?_
    obtain ⟨x4, e, h⟩ := h
    refine zq_fI f_X12_321 dX12_realizes_113 e ?_
    refine z_aload_n v0 dX12_realizes_116 rfl rfl ?_
    obtain ⟨r5, e, h⟩ := h
    refine zq_fR f_X12_50 dX12_realizes_117 e ?_
    refine zq_VV (N := MX12_laysPlace) (As := [.int v1, .int v5, .int x4, .ref r5]) m_X12_345 dX12_realizes_120 rfl rfl (Nat.le_of_ble_eq_true rfl) h (fun w6 h => ?_)
    refine z_aload_n v0 dX12_realizes_123 rfl rfl ?_
    refine z_iload_n v1 dX12_realizes_124 rfl rfl ?_
    refine z_iload v5 dX12_realizes_125 rfl ?_
    refine zq_VI (N := MX12_laysRow) (As := [.int v1, .int v5]) m_X12_349 dX12_realizes_127 rfl rfl (Nat.le_of_ble_eq_true rfl) h (fun x8 w7 h => ?_)
    refine z_istore (i := 6) dX12_realizes_130 (by decide) rfl ?_
    refine z_iconst 0 dX12_realizes_132 rfl ?_
    refine z_istore (i := 7) dX12_realizes_133 (by decide) rfl ?_
    exact zRn.weak h (zLe_of [true, true, true, true, true, true, false, true] (And.intro rfl (And.intro rfl (And.intro rfl (And.intro rfl (And.intro rfl (And.intro rfl (And.intro rfl (And.intro rfl (trivial))))))))))
set_option maxRecDepth 100000 in
set_option maxHeartbeats 4000000 in
theorem bX12_realizes_135 {X : zX} {d kc ks : Nat} {w : zW} {Q : Option Value → zW → Prop} (v0 : Nat) (v1 : Int32) (v2 : Int32) (v5 : Int32) (v7 : Int32)
    (h : zIs w v0 11 ∧ zCallI X d MX12_many [.ref v0, .int v1] w (fun x2 w1 => if x2 ≤ v7 then (zRn X d kc ks MX12_realizes 102 [some (.ref v0), some (.int v1), some (.int v2), none, none, some (.int (v5 + 1)), none, none] [] w1 Q) else (∃ r3, zfR w1 v0 11 17 = some r3 ∧ (∃ x4, zaI w1 r3 v7 = some x4 ∧ (zIs w1 v0 11 ∧ zCallV X d MX12_lays [.ref v0, .int v1, .int (((10 : Int32) + ((8 : Int32) * v5)) + v7), .int x4] w1 (fun w5 => zRn X d kc ks MX12_realizes 135 [some (.ref v0), some (.int v1), some (.int v2), none, none, some (.int v5), none, some (.int (v7 + 1))] [] w5 Q)))))) :
    zRn X d kc ks MX12_realizes 135 [some (.ref v0), some (.int v1), some (.int v2), none, none, some (.int v5), none, some (.int v7)] [] w Q := by
  refine z_iload v7 dX12_realizes_135 rfl ?_
  refine z_aload_n v0 dX12_realizes_137 rfl rfl ?_
  refine z_iload_n v1 dX12_realizes_138 rfl rfl ?_
  refine zq_VI (N := MX12_many) (As := [.int v1]) m_X12_76 dX12_realizes_139 rfl rfl (Nat.le_of_ble_eq_true rfl) h (fun x2 w1 h => ?_)
  refine z_icmp_ge 174 dX12_realizes_142 rfl (fun hc => ?_) (fun hc => ?_)
  · rw [if_pos hc] at h
    refine z_iinc (i := 5) v5 (v5 + 1) dX12_realizes_174 rfl rfl (by decide) rfl ?_
    refine z_goto 102 dX12_realizes_177 rfl ?_
    exact zRn.weak h (zLe_of [true, true, true, true, true, true, true, false] (And.intro rfl (And.intro rfl (And.intro rfl (And.intro rfl (And.intro rfl (And.intro rfl (And.intro rfl (And.intro rfl (trivial))))))))))
  · rw [if_neg hc] at h
    refine z_aload_n v0 dX12_realizes_145 rfl rfl ?_
    refine z_iload_n v1 dX12_realizes_146 rfl rfl ?_
    refine z_bipush 10 dX12_realizes_147 rfl ?_
    refine z_bipush 8 dX12_realizes_149 rfl ?_
    refine z_iload v5 dX12_realizes_151 rfl ?_
    refine z_imul dX12_realizes_153 ?_
    refine z_iadd dX12_realizes_154 ?_
    refine z_iload v7 dX12_realizes_155 rfl ?_
    refine z_iadd dX12_realizes_157 ?_
    refine z_aload_n v0 dX12_realizes_158 rfl rfl ?_
    obtain ⟨r3, e, h⟩ := h
    refine zq_fR f_X12_35 dX12_realizes_159 e ?_
    refine z_iload v7 dX12_realizes_162 rfl ?_
    obtain ⟨x4, e, h⟩ := h
    refine zq_aI dX12_realizes_164 e ?_
    refine zq_VV (N := MX12_lays) (As := [.int v1, .int (((10 : Int32) + ((8 : Int32) * v5)) + v7), .int x4]) m_X12_109 dX12_realizes_165 rfl rfl (Nat.le_of_ble_eq_true rfl) h (fun w5 h => ?_)
    refine z_iinc (i := 7) v7 (v7 + 1) dX12_realizes_168 rfl rfl (by decide) rfl ?_
    refine z_goto 135 dX12_realizes_171 rfl ?_
    exact h
theorem eX12_realizes {X : zX} {d kc ks : Nat} {w : zW} {Q : Option Value → zW → Prop} (p0 : Nat) (a1 : Int32) (a2 : Int32) (a3 : Int32) (h : zRn X d kc ks MX12_realizes 0 [some (.ref p0), some (.int a1), some (.int a2), some (.int a3), none, none, none, none] [] w Q) : zEv X d kc ks MX12_realizes [.ref p0, .int a1, .int a2, .int a3] w Q :=
  zEv.of (by decide) (Nat.le_of_ble_eq_true rfl) (Or.inr (by simp [Value.category])) h
set_option maxRecDepth 100000 in
set_option maxHeartbeats 4000000 in
theorem bX12_sought_0 {X : zX} {d kc ks : Nat} {w : zW} {Q : Option Value → zW → Prop} (p0 : Nat) (a1 : Int32) (a2 : Int32) (a3 : Int32)
    (h : zIs w p0 11 ∧ zCallV X d MX12_laysTwos [.ref p0, .int a1] w (fun w1 => ∃ w2, zsF w1 p0 11 23 (.int 0) = some w2 ∧ (zIs w2 p0 11 ∧ zCallI X d MX12_searches [.ref p0, .int a1, .int 0, .int 0, .int a2, .int a3] w2 (fun x4 w3 => Q (some (.int x4)) w3)))) :
    zRn X d kc ks MX12_sought 0 [some (.ref p0), some (.int a1), some (.int a2), some (.int a3)] [] w Q := by
  refine z_aload_n p0 dX12_sought_0 rfl rfl ?_
  refine z_iload_n a1 dX12_sought_1 rfl rfl ?_
  refine zq_VV (N := MX12_laysTwos) (As := [.int a1]) m_X12_324 dX12_sought_2 rfl rfl (Nat.le_of_ble_eq_true rfl) h (fun w1 h => ?_)
  refine z_aload_n p0 dX12_sought_5 rfl rfl ?_
  refine z_iconst 0 dX12_sought_6 rfl ?_
  obtain ⟨w2, e, h⟩ := h
  refine zq_sF f_X12_342 dX12_sought_7 (fun _ => rfl) (fun _ => rfl) e ?_
  refine z_aload_n p0 dX12_sought_10 rfl rfl ?_
  refine z_iload_n a1 dX12_sought_11 rfl rfl ?_
  refine z_iconst 0 dX12_sought_12 rfl ?_
  refine z_iconst 0 dX12_sought_13 rfl ?_
  refine z_iload_n a2 dX12_sought_14 rfl rfl ?_
  refine z_iload_n a3 dX12_sought_15 rfl rfl ?_
  refine zq_VI (N := MX12_searches) (As := [.int a1, .int 0, .int 0, .int a2, .int a3]) m_X12_352 dX12_sought_16 rfl rfl (Nat.le_of_ble_eq_true rfl) h (fun x4 w3 h => ?_)
  exact z_ireturn .int dX12_sought_19 rfl rfl h
theorem eX12_sought {X : zX} {d kc ks : Nat} {w : zW} {Q : Option Value → zW → Prop} (p0 : Nat) (a1 : Int32) (a2 : Int32) (a3 : Int32) (h : zRn X d kc ks MX12_sought 0 [some (.ref p0), some (.int a1), some (.int a2), some (.int a3)] [] w Q) : zEv X d kc ks MX12_sought [.ref p0, .int a1, .int a2, .int a3] w Q :=
  zEv.of (by decide) (Nat.le_of_ble_eq_true rfl) (Or.inr (by simp [Value.category])) h
set_option maxRecDepth 100000 in
set_option maxHeartbeats 4000000 in
theorem bX12_searches_0 {X : zX} {d kc ks : Nat} {w : zW} {Q : Option Value → zW → Prop} (p0 : Nat) (a1 : Int32) (a2 : Int32) (a3 : Int32) (a4 : Int32) (a5 : Int32)
    (h : ∃ x1, zfI w p0 11 21 = some x1 ∧ (if a2 = x1 then (Q (some (.int 1)) w) else (zRn X d kc ks MX12_searches 13 [some (.ref p0), some (.int a1), some (.int a2), some (.int a3), some (.int a4), some (.int a5), some (.int 0), none] [] w Q))) :
    zRn X d kc ks MX12_searches 0 [some (.ref p0), some (.int a1), some (.int a2), some (.int a3), some (.int a4), some (.int a5), none, none] [] w Q := by
  refine z_iload_n a2 dX12_searches_0 rfl rfl ?_
  refine z_aload_n p0 dX12_searches_1 rfl rfl ?_
  obtain ⟨x1, e, h⟩ := h
  refine zq_fI f_X12_321 dX12_searches_2 e ?_
  refine z_icmp_ne 10 dX12_searches_5 rfl (fun hc => ?_) (fun hc => ?_)
  · rw [if_neg hc] at h
    refine z_iconst 0 dX12_searches_10 rfl ?_
    refine z_istore (i := 6) dX12_searches_11 (by decide) rfl ?_
    exact h
  · rw [if_pos hc] at h
    refine z_iconst 1 dX12_searches_8 rfl ?_
    exact z_ireturn .int dX12_searches_9 rfl rfl h
set_option maxRecDepth 100000 in
set_option maxHeartbeats 4000000 in
theorem bX12_searches_13 {X : zX} {d kc ks : Nat} {w : zW} {Q : Option Value → zW → Prop} (v0 : Nat) (v1 : Int32) (v2 : Int32) (v3 : Int32) (v4 : Int32) (v5 : Int32) (v6 : Int32)
    (h : if v3 < v6 then (Q (some (.int 0)) w) else (if v4 ≤ v6 then (Q (some (.int 0)) w) else (∃ x1, zfI w v0 11 23 = some x1 ∧ (if x1 = v5 then (Q (some (.int (-3))) w) else (∃ x2, zfI w v0 11 23 = some x2 ∧ (∃ w3, zsF w v0 11 23 (.int (x2 + 1)) = some w3 ∧ (∃ r4, zfR w3 v0 11 24 = some r4 ∧ (∃ w5, zsI w3 r4 v2 v6 = some w5 ∧ (∃ r6, zfR w5 v0 11 24 = some r6 ∧ (zIs w5 v0 11 ∧ zCallV X d MX12_laysPlace [.ref v0, .int v1, .int v6, .int (v2 + 1), .ref r6] w5 (fun w7 => zIs w7 v0 11 ∧ zCallI X d MX12_laysRow [.ref v0, .int v1, .int v6] w7 (fun x9 w8 => if x9 = 0 then (zRn X d kc ks MX12_searches 118 [some (.ref v0), some (.int v1), some (.int v2), some (.int v3), some (.int v4), some (.int v5), some (.int v6), none] [] w8 Q) else (if v6 = v3 then (zRn X d kc ks MX12_searches 101 [some (.ref v0), some (.int v1), some (.int v2), some (.int v3), some (.int v4), some (.int v5), some (.int v6), none] [.int (v3 + 1), .int (v2 + 1), .int v1, .ref v0] w8 Q) else (zRn X d kc ks MX12_searches 101 [some (.ref v0), some (.int v1), some (.int v2), some (.int v3), some (.int v4), some (.int v5), some (.int v6), none] [.int v3, .int (v2 + 1), .int v1, .ref v0] w8 Q)))))))))))))) :
    zRn X d kc ks MX12_searches 13 [some (.ref v0), some (.int v1), some (.int v2), some (.int v3), some (.int v4), some (.int v5), some (.int v6), none] [] w Q := by
  refine z_iload v6 dX12_searches_13 rfl ?_
  refine z_iload_n v3 dX12_searches_15 rfl rfl ?_
  refine z_icmp_gt 124 dX12_searches_16 rfl (fun hc => ?_) (fun hc => ?_)
  · rw [if_pos hc] at h
    refine z_iconst 0 dX12_searches_124 rfl ?_
    exact z_ireturn .int dX12_searches_125 rfl rfl h
  · rw [if_neg hc] at h
    refine z_iload v6 dX12_searches_19 rfl ?_
    refine z_iload v4 dX12_searches_21 rfl ?_
    refine z_icmp_ge 124 dX12_searches_23 rfl (fun hc => ?_) (fun hc => ?_)
    · rw [if_pos hc] at h
      refine z_iconst 0 dX12_searches_124 rfl ?_
      exact z_ireturn .int dX12_searches_125 rfl rfl h
    · rw [if_neg hc] at h
      refine z_aload_n v0 dX12_searches_26 rfl rfl ?_
      obtain ⟨x1, e, h⟩ := h
      refine zq_fI f_X12_342 dX12_searches_27 e ?_
      refine z_iload v5 dX12_searches_30 rfl ?_
      refine z_icmp_ne 38 dX12_searches_32 rfl (fun hc => ?_) (fun hc => ?_)
      · rw [if_neg hc] at h
        refine z_aload_n v0 dX12_searches_38 rfl rfl ?_
        refine z_dup dX12_searches_39 rfl ?_
        obtain ⟨x2, e, h⟩ := h
        refine zq_fI f_X12_342 dX12_searches_40 e ?_
        refine z_iconst 1 dX12_searches_43 rfl ?_
        refine z_iadd dX12_searches_44 ?_
        obtain ⟨w3, e, h⟩ := h
        refine zq_sF f_X12_342 dX12_searches_45 (fun _ => rfl) (fun _ => rfl) e ?_
        refine z_aload_n v0 dX12_searches_48 rfl rfl ?_
        obtain ⟨r4, e, h⟩ := h
        refine zq_fR f_X12_50 dX12_searches_49 e ?_
        refine z_iload_n v2 dX12_searches_52 rfl rfl ?_
        refine z_iload v6 dX12_searches_53 rfl ?_
        obtain ⟨w5, e, h⟩ := h
        refine zq_sI dX12_searches_55 e ?_
        refine z_aload_n v0 dX12_searches_56 rfl rfl ?_
        refine z_iload_n v1 dX12_searches_57 rfl rfl ?_
        refine z_iload v6 dX12_searches_58 rfl ?_
        refine z_iload_n v2 dX12_searches_60 rfl rfl ?_
        refine z_iconst 1 dX12_searches_61 rfl ?_
        refine z_iadd dX12_searches_62 ?_
        refine z_aload_n v0 dX12_searches_63 rfl rfl ?_
        obtain ⟨r6, e, h⟩ := h
        refine zq_fR f_X12_50 dX12_searches_64 e ?_
        refine zq_VV (N := MX12_laysPlace) (As := [.int v1, .int v6, .int (v2 + 1), .ref r6]) m_X12_345 dX12_searches_67 rfl rfl (Nat.le_of_ble_eq_true rfl) h (fun w7 h => ?_)
        refine z_aload_n v0 dX12_searches_70 rfl rfl ?_
        refine z_iload_n v1 dX12_searches_71 rfl rfl ?_
        refine z_iload v6 dX12_searches_72 rfl ?_
        refine zq_VI (N := MX12_laysRow) (As := [.int v1, .int v6]) m_X12_349 dX12_searches_74 rfl rfl (Nat.le_of_ble_eq_true rfl) h (fun x9 w8 h => ?_)
        refine z_if_ne 83 dX12_searches_77 rfl (fun hc => ?_) (fun hc => ?_)
        · rw [if_neg hc] at h
          refine z_aload_n v0 dX12_searches_83 rfl rfl ?_
          refine z_iload_n v1 dX12_searches_84 rfl rfl ?_
          refine z_iload_n v2 dX12_searches_85 rfl rfl ?_
          refine z_iconst 1 dX12_searches_86 rfl ?_
          refine z_iadd dX12_searches_87 ?_
          refine z_iload v6 dX12_searches_88 rfl ?_
          refine z_iload_n v3 dX12_searches_90 rfl rfl ?_
          refine z_icmp_ne 100 dX12_searches_91 rfl (fun hc => ?_) (fun hc => ?_)
          · rw [if_neg hc] at h
            refine z_iload_n v3 dX12_searches_100 rfl rfl ?_
            exact h
          · rw [if_pos hc] at h
            refine z_iload_n v3 dX12_searches_94 rfl rfl ?_
            refine z_iconst 1 dX12_searches_95 rfl ?_
            refine z_iadd dX12_searches_96 ?_
            refine z_goto 101 dX12_searches_97 rfl ?_
            exact h
        · rw [if_pos hc] at h
          refine z_goto 118 dX12_searches_80 rfl ?_
          exact h
      · rw [if_pos hc] at h
        refine z_bipush (-3) dX12_searches_35 rfl ?_
        exact z_ireturn .int dX12_searches_37 rfl rfl h
set_option maxRecDepth 100000 in
set_option maxHeartbeats 4000000 in
theorem bX12_searches_101 {X : zX} {d kc ks : Nat} {w : zW} {Q : Option Value → zW → Prop} (v0 : Nat) (v1 : Int32) (v2 : Int32) (v3 : Int32) (v4 : Int32) (v5 : Int32) (v6 : Int32) (u0 : Int32) (u1 : Int32) (u2 : Int32) (u3 : Nat)
    (h : zIs w u3 11 ∧ zCallI X d MX12_searches [.ref u3, .int u2, .int u1, .int u0, .int v4, .int v5] w (fun x2 w1 => if x2 = 0 then (zRn X d kc ks MX12_searches 118 [some (.ref v0), some (.int v1), some (.int v2), some (.int v3), some (.int v4), some (.int v5), some (.int v6), none] [] w1 Q) else (Q (some (.int x2)) w1))) :
    zRn X d kc ks MX12_searches 101 [some (.ref v0), some (.int v1), some (.int v2), some (.int v3), some (.int v4), some (.int v5), some (.int v6), none] [.int u0, .int u1, .int u2, .ref u3] w Q := by
  refine z_iload v4 dX12_searches_101 rfl ?_
  refine z_iload v5 dX12_searches_103 rfl ?_
  refine zq_VI (N := MX12_searches) (As := [.int u2, .int u1, .int u0, .int v4, .int v5]) m_X12_352 dX12_searches_105 rfl rfl (Nat.le_of_ble_eq_true rfl) h (fun x2 w1 h => ?_)
  refine z_istore (i := 7) dX12_searches_108 (by decide) rfl ?_
  refine z_iload x2 dX12_searches_110 rfl ?_
  refine z_if_eq 118 dX12_searches_112 rfl (fun hc => ?_) (fun hc => ?_)
  · rw [if_pos hc] at h
    exact zRn.weak h (zLe_of [true, true, true, true, true, true, true, false] (And.intro rfl (And.intro rfl (And.intro rfl (And.intro rfl (And.intro rfl (And.intro rfl (And.intro rfl (And.intro rfl (trivial))))))))))
  · rw [if_neg hc] at h
    refine z_iload x2 dX12_searches_115 rfl ?_
    exact z_ireturn .int dX12_searches_117 rfl rfl h
set_option maxRecDepth 100000 in
set_option maxHeartbeats 4000000 in
theorem bX12_searches_118 {X : zX} {d kc ks : Nat} {w : zW} {Q : Option Value → zW → Prop} (v0 : Nat) (v1 : Int32) (v2 : Int32) (v3 : Int32) (v4 : Int32) (v5 : Int32) (v6 : Int32)
    (h : zRn X d kc ks MX12_searches 13 [some (.ref v0), some (.int v1), some (.int v2), some (.int v3), some (.int v4), some (.int v5), some (.int (v6 + 1)), none] [] w Q) :
    zRn X d kc ks MX12_searches 118 [some (.ref v0), some (.int v1), some (.int v2), some (.int v3), some (.int v4), some (.int v5), some (.int v6), none] [] w Q := by
  refine z_iinc (i := 6) v6 (v6 + 1) dX12_searches_118 rfl rfl (by decide) rfl ?_
  refine z_goto 13 dX12_searches_121 rfl ?_
  exact h
theorem eX12_searches {X : zX} {d kc ks : Nat} {w : zW} {Q : Option Value → zW → Prop} (p0 : Nat) (a1 : Int32) (a2 : Int32) (a3 : Int32) (a4 : Int32) (a5 : Int32) (h : zRn X d kc ks MX12_searches 0 [some (.ref p0), some (.int a1), some (.int a2), some (.int a3), some (.int a4), some (.int a5), none, none] [] w Q) : zEv X d kc ks MX12_searches [.ref p0, .int a1, .int a2, .int a3, .int a4, .int a5] w Q :=
  zEv.of (by decide) (Nat.le_of_ble_eq_true rfl) (Or.inr (by simp [Value.category])) h
set_option maxRecDepth 100000 in
set_option maxHeartbeats 4000000 in
theorem bX12_laysPlace_0 {X : zX} {d kc ks : Nat} {w : zW} {Q : Option Value → zW → Prop} (p0 : Nat) (a1 : Int32) (a2 : Int32) (a3 : Int32) (p4 : Nat)
    (h : zRn X d kc ks MX12_laysPlace 3 [some (.ref p0), some (.int a1), some (.int a2), some (.int a3), some (.ref p4), some (.int 0)] [] w Q) :
    zRn X d kc ks MX12_laysPlace 0 [some (.ref p0), some (.int a1), some (.int a2), some (.int a3), some (.ref p4), none] [] w Q := by
  refine z_iconst 0 dX12_laysPlace_0 rfl ?_
  refine z_istore (i := 5) dX12_laysPlace_1 (by decide) rfl ?_
  exact h
set_option maxRecDepth 100000 in
set_option maxHeartbeats 4000000 in
theorem bX12_laysPlace_3 {X : zX} {d kc ks : Nat} {w : zW} {Q : Option Value → zW → Prop} (v0 : Nat) (v1 : Int32) (v2 : Int32) (v3 : Int32) (v4 : Nat) (v5 : Int32)
    (h : zIs w v0 11 ∧ zCallI X d MX12_many [.ref v0, .int v1] w (fun x2 w1 => if x2 ≤ v5 then (zRn X d kc ks MX12_laysPlace 41 [some (.ref v0), none, some (.int v2), some (.int v3), some (.ref v4), some (.int 0)] [] w1 Q) else (∃ r3, zfR w1 v0 11 22 = some r3 ∧ (zIs w1 v0 11 ∧ zCallI X d MX12_under [.ref v0, .int v1, .int v5] w1 (fun x5 w4 => ∃ w6, zsI w4 r3 (((8 : Int32) * v2) + v5) x5 = some w6 ∧ (zRn X d kc ks MX12_laysPlace 3 [some (.ref v0), some (.int v1), some (.int v2), some (.int v3), some (.ref v4), some (.int (v5 + 1))] [] w6 Q)))))) :
    zRn X d kc ks MX12_laysPlace 3 [some (.ref v0), some (.int v1), some (.int v2), some (.int v3), some (.ref v4), some (.int v5)] [] w Q := by
  refine z_iload v5 dX12_laysPlace_3 rfl ?_
  refine z_aload_n v0 dX12_laysPlace_5 rfl rfl ?_
  refine z_iload_n v1 dX12_laysPlace_6 rfl rfl ?_
  refine zq_VI (N := MX12_many) (As := [.int v1]) m_X12_76 dX12_laysPlace_7 rfl rfl (Nat.le_of_ble_eq_true rfl) h (fun x2 w1 h => ?_)
  refine z_icmp_ge 38 dX12_laysPlace_10 rfl (fun hc => ?_) (fun hc => ?_)
  · rw [if_pos hc] at h
    refine z_iconst 0 dX12_laysPlace_38 rfl ?_
    refine z_istore (i := 5) dX12_laysPlace_39 (by decide) rfl ?_
    exact zRn.weak h (zLe_of [true, false, true, true, true, true] (And.intro rfl (And.intro rfl (And.intro rfl (And.intro rfl (And.intro rfl (And.intro rfl (trivial))))))))
  · rw [if_neg hc] at h
    refine z_aload_n v0 dX12_laysPlace_13 rfl rfl ?_
    obtain ⟨r3, e, h⟩ := h
    refine zq_fR f_X12_47 dX12_laysPlace_14 e ?_
    refine z_bipush 8 dX12_laysPlace_17 rfl ?_
    refine z_iload_n v2 dX12_laysPlace_19 rfl rfl ?_
    refine z_imul dX12_laysPlace_20 ?_
    refine z_iload v5 dX12_laysPlace_21 rfl ?_
    refine z_iadd dX12_laysPlace_23 ?_
    refine z_aload_n v0 dX12_laysPlace_24 rfl rfl ?_
    refine z_iload_n v1 dX12_laysPlace_25 rfl rfl ?_
    refine z_iload v5 dX12_laysPlace_26 rfl ?_
    refine zq_VI (N := MX12_under) (As := [.int v1, .int v5]) m_X12_86 dX12_laysPlace_28 rfl rfl (Nat.le_of_ble_eq_true rfl) h (fun x5 w4 h => ?_)
    obtain ⟨w6, e, h⟩ := h
    refine zq_sI dX12_laysPlace_31 e ?_
    refine z_iinc (i := 5) v5 (v5 + 1) dX12_laysPlace_32 rfl rfl (by decide) rfl ?_
    refine z_goto 3 dX12_laysPlace_35 rfl ?_
    exact h
set_option maxRecDepth 100000 in
set_option maxHeartbeats 4000000 in
theorem bX12_laysPlace_41 {X : zX} {d kc ks : Nat} {w : zW} {Q : Option Value → zW → Prop} (v0 : Nat) (v2 : Int32) (v3 : Int32) (v4 : Nat) (v5 : Int32)
    (h : if v3 ≤ v5 then (Q none w) else (∃ x1, zaI w v4 v5 = some x1 ∧ (if x1 = v2 then (∃ r2, zfR w v0 11 22 = some r2 ∧ (∃ r3, zfR w v0 11 19 = some r3 ∧ (∃ x4, zaI w r3 v5 = some x4 ∧ (∃ x5, zaI w r2 (((8 : Int32) * v2) + x4) = some x5 ∧ (∃ r6, zfR w v0 11 20 = some r6 ∧ (∃ x7, zaI w r6 v5 = some x7 ∧ (∃ w8, zsI w r2 (((8 : Int32) * v2) + x4) (x5 ||| ((1 : Int32) <<< (x7 &&& 31))) = some w8 ∧ (zRn X d kc ks MX12_laysPlace 85 [some (.ref v0), none, some (.int v2), some (.int v3), some (.ref v4), some (.int v5)] [] w8 Q)))))))) else (zRn X d kc ks MX12_laysPlace 85 [some (.ref v0), none, some (.int v2), some (.int v3), some (.ref v4), some (.int v5)] [] w Q)))) :
    zRn X d kc ks MX12_laysPlace 41 [some (.ref v0), none, some (.int v2), some (.int v3), some (.ref v4), some (.int v5)] [] w Q := by
  refine z_iload v5 dX12_laysPlace_41 rfl ?_
  refine z_iload_n v3 dX12_laysPlace_43 rfl rfl ?_
  refine z_icmp_ge 91 dX12_laysPlace_44 rfl (fun hc => ?_) (fun hc => ?_)
  · rw [if_pos hc] at h
    exact z_vreturn dX12_laysPlace_91 rfl h
  · rw [if_neg hc] at h
    refine z_aload v4 dX12_laysPlace_47 rfl ?_
    refine z_iload v5 dX12_laysPlace_49 rfl ?_
    obtain ⟨x1, e, h⟩ := h
    refine zq_aI dX12_laysPlace_51 e ?_
    refine z_iload_n v2 dX12_laysPlace_52 rfl rfl ?_
    refine z_icmp_ne 85 dX12_laysPlace_53 rfl (fun hc => ?_) (fun hc => ?_)
    · rw [if_neg hc] at h
      exact h
    · rw [if_pos hc] at h
      refine z_aload_n v0 dX12_laysPlace_56 rfl rfl ?_
      obtain ⟨r2, e, h⟩ := h
      refine zq_fR f_X12_47 dX12_laysPlace_57 e ?_
      refine z_bipush 8 dX12_laysPlace_60 rfl ?_
      refine z_iload_n v2 dX12_laysPlace_62 rfl rfl ?_
      refine z_imul dX12_laysPlace_63 ?_
      refine z_aload_n v0 dX12_laysPlace_64 rfl rfl ?_
      obtain ⟨r3, e, h⟩ := h
      refine zq_fR f_X12_41 dX12_laysPlace_65 e ?_
      refine z_iload v5 dX12_laysPlace_68 rfl ?_
      obtain ⟨x4, e, h⟩ := h
      refine zq_aI dX12_laysPlace_70 e ?_
      refine z_iadd dX12_laysPlace_71 ?_
      refine z_dup2 dX12_laysPlace_72 rfl rfl ?_
      obtain ⟨x5, e, h⟩ := h
      refine zq_aI dX12_laysPlace_73 e ?_
      refine z_iconst 1 dX12_laysPlace_74 rfl ?_
      refine z_aload_n v0 dX12_laysPlace_75 rfl rfl ?_
      obtain ⟨r6, e, h⟩ := h
      refine zq_fR f_X12_44 dX12_laysPlace_76 e ?_
      refine z_iload v5 dX12_laysPlace_79 rfl ?_
      obtain ⟨x7, e, h⟩ := h
      refine zq_aI dX12_laysPlace_81 e ?_
      refine z_ishl dX12_laysPlace_82 ?_
      refine z_ior dX12_laysPlace_83 ?_
      obtain ⟨w8, e, h⟩ := h
      refine zq_sI dX12_laysPlace_84 e ?_
      exact h
set_option maxRecDepth 100000 in
set_option maxHeartbeats 4000000 in
theorem bX12_laysPlace_85 {X : zX} {d kc ks : Nat} {w : zW} {Q : Option Value → zW → Prop} (v0 : Nat) (v2 : Int32) (v3 : Int32) (v4 : Nat) (v5 : Int32)
    (h : zRn X d kc ks MX12_laysPlace 41 [some (.ref v0), none, some (.int v2), some (.int v3), some (.ref v4), some (.int (v5 + 1))] [] w Q) :
    zRn X d kc ks MX12_laysPlace 85 [some (.ref v0), none, some (.int v2), some (.int v3), some (.ref v4), some (.int v5)] [] w Q := by
  refine z_iinc (i := 5) v5 (v5 + 1) dX12_laysPlace_85 rfl rfl (by decide) rfl ?_
  refine z_goto 41 dX12_laysPlace_88 rfl ?_
  exact h
theorem eX12_laysPlace {X : zX} {d kc ks : Nat} {w : zW} {Q : Option Value → zW → Prop} (p0 : Nat) (a1 : Int32) (a2 : Int32) (a3 : Int32) (p4 : Nat) (h : zRn X d kc ks MX12_laysPlace 0 [some (.ref p0), some (.int a1), some (.int a2), some (.int a3), some (.ref p4), none] [] w Q) : zEv X d kc ks MX12_laysPlace [.ref p0, .int a1, .int a2, .int a3, .ref p4] w Q :=
  zEv.of (by decide) (Nat.le_of_ble_eq_true rfl) (Or.inr (by simp [Value.category])) h
set_option maxRecDepth 100000 in
set_option maxHeartbeats 4000000 in
theorem bX12_laysRow_0 {X : zX} {d kc ks : Nat} {w : zW} {Q : Option Value → zW → Prop} (p0 : Nat) (a1 : Int32) (a2 : Int32)
    (h : zRn X d kc ks MX12_laysRow 5 [some (.ref p0), some (.int a1), some (.int a2), some (.int 0), some (.int 0), none] [] w Q) :
    zRn X d kc ks MX12_laysRow 0 [some (.ref p0), some (.int a1), some (.int a2), none, none, none] [] w Q := by
  refine z_iconst 0 dX12_laysRow_0 rfl ?_
  refine z_istore_n (i := 3) dX12_laysRow_1 rfl (by decide) rfl ?_
  refine z_iconst 0 dX12_laysRow_2 rfl ?_
  refine z_istore (i := 4) dX12_laysRow_3 (by decide) rfl ?_
  exact h
set_option maxRecDepth 100000 in
set_option maxHeartbeats 4000000 in
theorem bX12_laysRow_5 {X : zX} {d kc ks : Nat} {w : zW} {Q : Option Value → zW → Prop} (v0 : Nat) (v1 : Int32) (v2 : Int32) (v3 : Int32) (v4 : Int32)
    (h : zIs w v0 11 ∧ zCallI X d MX12_many [.ref v0, .int v1] w (fun x2 w1 => if x2 ≤ v4 then (Q (some (.int 1)) w1) else (zRn X d kc ks MX12_laysRow 18 [some (.ref v0), some (.int v1), some (.int v2), some (.int v3), some (.int v4), some (.int 0)] [] w1 Q))) :
    zRn X d kc ks MX12_laysRow 5 [some (.ref v0), some (.int v1), some (.int v2), some (.int v3), some (.int v4), none] [] w Q := by
  refine z_iload v4 dX12_laysRow_5 rfl ?_
  refine z_aload_n v0 dX12_laysRow_7 rfl rfl ?_
  refine z_iload_n v1 dX12_laysRow_8 rfl rfl ?_
  refine zq_VI (N := MX12_many) (As := [.int v1]) m_X12_76 dX12_laysRow_9 rfl rfl (Nat.le_of_ble_eq_true rfl) h (fun x2 w1 h => ?_)
  refine z_icmp_ge 96 dX12_laysRow_12 rfl (fun hc => ?_) (fun hc => ?_)
  · rw [if_pos hc] at h
    refine z_iconst 1 dX12_laysRow_96 rfl ?_
    exact z_ireturn .boolean dX12_laysRow_97 rfl rfl h
  · rw [if_neg hc] at h
    refine z_iconst 0 dX12_laysRow_15 rfl ?_
    refine z_istore (i := 5) dX12_laysRow_16 (by decide) rfl ?_
    exact h
set_option maxRecDepth 100000 in
set_option maxHeartbeats 4000000 in
theorem bX12_laysRow_18 {X : zX} {d kc ks : Nat} {w : zW} {Q : Option Value → zW → Prop} (v0 : Nat) (v1 : Int32) (v2 : Int32) (v3 : Int32) (v4 : Int32) (v5 : Int32)
    (h : zIs w v0 11 ∧ zCallI X d MX12_many [.ref v0, .int v1] w (fun x2 w1 => if x2 ≤ v5 then (zRn X d kc ks MX12_laysRow 62 [some (.ref v0), some (.int v1), some (.int v2), some (.int v3), some (.int v4), some (.int v5)] [] w1 Q) else (zCallI X d MX12_has [.int v3, .int v5] w1 (fun x4 w3 => if x4 = 0 then (∃ r5, zfR w3 v0 11 22 = some r5 ∧ (∃ x6, zaI w3 r5 (((8 : Int32) * v2) + v5) = some x6 ∧ (if (x6 &&& (v3 ^^^ (-1))) = 0 then (zRn X d kc ks MX12_laysRow 62 [some (.ref v0), some (.int v1), some (.int v2), some (.int v3), some (.int v4), some (.int v5)] [] w3 Q) else (zRn X d kc ks MX12_laysRow 56 [some (.ref v0), some (.int v1), some (.int v2), some (.int v3), some (.int v4), some (.int v5)] [] w3 Q)))) else (zRn X d kc ks MX12_laysRow 56 [some (.ref v0), some (.int v1), some (.int v2), some (.int v3), some (.int v4), some (.int v5)] [] w3 Q))))) :
    zRn X d kc ks MX12_laysRow 18 [some (.ref v0), some (.int v1), some (.int v2), some (.int v3), some (.int v4), some (.int v5)] [] w Q := by
  refine z_iload v5 dX12_laysRow_18 rfl ?_
  refine z_aload_n v0 dX12_laysRow_20 rfl rfl ?_
  refine z_iload_n v1 dX12_laysRow_21 rfl rfl ?_
  refine zq_VI (N := MX12_many) (As := [.int v1]) m_X12_76 dX12_laysRow_22 rfl rfl (Nat.le_of_ble_eq_true rfl) h (fun x2 w1 h => ?_)
  refine z_icmp_ge 62 dX12_laysRow_25 rfl (fun hc => ?_) (fun hc => ?_)
  · rw [if_pos hc] at h
    exact h
  · rw [if_neg hc] at h
    refine z_iload_n v3 dX12_laysRow_28 rfl rfl ?_
    refine z_iload v5 dX12_laysRow_29 rfl ?_
    refine zq_SI (N := MX12_has) (As := [.int v3, .int v5]) m_X12_89 dX12_laysRow_31 rfl rfl (Nat.le_of_ble_eq_true rfl) h (fun x4 w3 h => ?_)
    refine z_if_ne 56 dX12_laysRow_34 rfl (fun hc => ?_) (fun hc => ?_)
    · rw [if_neg hc] at h
      exact h
    · rw [if_pos hc] at h
      refine z_aload_n v0 dX12_laysRow_37 rfl rfl ?_
      obtain ⟨r5, e, h⟩ := h
      refine zq_fR f_X12_47 dX12_laysRow_38 e ?_
      refine z_bipush 8 dX12_laysRow_41 rfl ?_
      refine z_iload_n v2 dX12_laysRow_43 rfl rfl ?_
      refine z_imul dX12_laysRow_44 ?_
      refine z_iload v5 dX12_laysRow_45 rfl ?_
      refine z_iadd dX12_laysRow_47 ?_
      obtain ⟨x6, e, h⟩ := h
      refine zq_aI dX12_laysRow_48 e ?_
      refine z_iload_n v3 dX12_laysRow_49 rfl rfl ?_
      refine z_iconst (-1) dX12_laysRow_50 rfl ?_
      refine z_ixor dX12_laysRow_51 ?_
      refine z_iand dX12_laysRow_52 ?_
      refine z_if_eq 62 dX12_laysRow_53 rfl (fun hc => ?_) (fun hc => ?_)
      · rw [if_pos hc] at h
        exact h
      · rw [if_neg hc] at h
        exact h
set_option maxRecDepth 100000 in
set_option maxHeartbeats 4000000 in
theorem bX12_laysRow_56 {X : zX} {d kc ks : Nat} {w : zW} {Q : Option Value → zW → Prop} (v0 : Nat) (v1 : Int32) (v2 : Int32) (v3 : Int32) (v4 : Int32) (v5 : Int32)
    (h : zRn X d kc ks MX12_laysRow 18 [some (.ref v0), some (.int v1), some (.int v2), some (.int v3), some (.int v4), some (.int (v5 + 1))] [] w Q) :
    zRn X d kc ks MX12_laysRow 56 [some (.ref v0), some (.int v1), some (.int v2), some (.int v3), some (.int v4), some (.int v5)] [] w Q := by
  refine z_iinc (i := 5) v5 (v5 + 1) dX12_laysRow_56 rfl rfl (by decide) rfl ?_
  refine z_goto 18 dX12_laysRow_59 rfl ?_
  exact h
set_option maxRecDepth 100000 in
set_option maxHeartbeats 4000000 in
theorem bX12_laysRow_62 {X : zX} {d kc ks : Nat} {w : zW} {Q : Option Value → zW → Prop} (v0 : Nat) (v1 : Int32) (v2 : Int32) (v3 : Int32) (v4 : Int32) (v5 : Int32)
    (h : zIs w v0 11 ∧ zCallI X d MX12_many [.ref v0, .int v1] w (fun x2 w1 => if v5 = x2 then (Q (some (.int 0)) w1) else (∃ r3, zfR w1 v0 11 17 = some r3 ∧ (∃ w4, zsI w1 r3 v4 v5 = some w4 ∧ (zRn X d kc ks MX12_laysRow 5 [some (.ref v0), some (.int v1), some (.int v2), some (.int (v3 ||| ((1 : Int32) <<< (v5 &&& 31)))), some (.int (v4 + 1)), none] [] w4 Q))))) :
    zRn X d kc ks MX12_laysRow 62 [some (.ref v0), some (.int v1), some (.int v2), some (.int v3), some (.int v4), some (.int v5)] [] w Q := by
  refine z_iload v5 dX12_laysRow_62 rfl ?_
  refine z_aload_n v0 dX12_laysRow_64 rfl rfl ?_
  refine z_iload_n v1 dX12_laysRow_65 rfl rfl ?_
  refine zq_VI (N := MX12_many) (As := [.int v1]) m_X12_76 dX12_laysRow_66 rfl rfl (Nat.le_of_ble_eq_true rfl) h (fun x2 w1 h => ?_)
  refine z_icmp_ne 74 dX12_laysRow_69 rfl (fun hc => ?_) (fun hc => ?_)
  · rw [if_neg hc] at h
    refine z_aload_n v0 dX12_laysRow_74 rfl rfl ?_
    obtain ⟨r3, e, h⟩ := h
    refine zq_fR f_X12_35 dX12_laysRow_75 e ?_
    refine z_iload v4 dX12_laysRow_78 rfl ?_
    refine z_iload v5 dX12_laysRow_80 rfl ?_
    obtain ⟨w4, e, h⟩ := h
    refine zq_sI dX12_laysRow_82 e ?_
    refine z_iload_n v3 dX12_laysRow_83 rfl rfl ?_
    refine z_iconst 1 dX12_laysRow_84 rfl ?_
    refine z_iload v5 dX12_laysRow_85 rfl ?_
    refine z_ishl dX12_laysRow_87 ?_
    refine z_ior dX12_laysRow_88 ?_
    refine z_istore_n (i := 3) dX12_laysRow_89 rfl (by decide) rfl ?_
    refine z_iinc (i := 4) v4 (v4 + 1) dX12_laysRow_90 rfl rfl (by decide) rfl ?_
    refine z_goto 5 dX12_laysRow_93 rfl ?_
    exact zRn.weak h (zLe_of [true, true, true, true, true, false] (And.intro rfl (And.intro rfl (And.intro rfl (And.intro rfl (And.intro rfl (And.intro rfl (trivial))))))))
  · rw [if_pos hc] at h
    refine z_iconst 0 dX12_laysRow_72 rfl ?_
    exact z_ireturn .boolean dX12_laysRow_73 rfl rfl h
theorem eX12_laysRow {X : zX} {d kc ks : Nat} {w : zW} {Q : Option Value → zW → Prop} (p0 : Nat) (a1 : Int32) (a2 : Int32) (h : zRn X d kc ks MX12_laysRow 0 [some (.ref p0), some (.int a1), some (.int a2), none, none, none] [] w Q) : zEv X d kc ks MX12_laysRow [.ref p0, .int a1, .int a2] w Q :=
  zEv.of (by decide) (Nat.le_of_ble_eq_true rfl) (Or.inr (by simp [Value.category])) h
set_option maxRecDepth 100000 in
set_option maxHeartbeats 4000000 in
theorem bX12_dimension_0 {X : zX} {d kc ks : Nat} {w : zW} {Q : Option Value → zW → Prop} (p0 : Nat) (a1 : Int32) (a2 : Int32)
    (h : zIs w p0 11 ∧ zCallI X d MX12_isOrder [.ref p0, .int a1] w (fun x2 w1 => if x2 = 0 then (Q (some (.int (-2))) w1) else (zCallI X d MX12_in [.long ((a2 : Int32).toInt64), .long 1, .long 100000] w1 (fun x4 w3 => if x4 = 0 then (Q (some (.int (-2))) w3) else (zRn X d kc ks MX12_dimension 25 [some (.ref p0), some (.int a1), some (.int a2), some (.int 1), none] [] w3 Q))))) :
    zRn X d kc ks MX12_dimension 0 [some (.ref p0), some (.int a1), some (.int a2), none, none] [] w Q := by
  refine z_aload_n p0 dX12_dimension_0 rfl rfl ?_
  refine z_iload_n a1 dX12_dimension_1 rfl rfl ?_
  refine zq_VI (N := MX12_isOrder) (As := [.int a1]) m_X12_80 dX12_dimension_2 rfl rfl (Nat.le_of_ble_eq_true rfl) h (fun x2 w1 h => ?_)
  refine z_if_eq 20 dX12_dimension_5 rfl (fun hc => ?_) (fun hc => ?_)
  · rw [if_pos hc] at h
    refine z_bipush (-2) dX12_dimension_20 rfl ?_
    exact z_ireturn .int dX12_dimension_22 rfl rfl h
  · rw [if_neg hc] at h
    refine z_iload_n a2 dX12_dimension_8 rfl rfl ?_
    refine z_i2l dX12_dimension_9 ?_
    refine z_lconst 1 dX12_dimension_10 rfl ?_
    refine z_ldc2 100000 g_1680 dX12_dimension_11 ?_
    refine zq_SI (N := MX12_in) (As := [.long ((a2 : Int32).toInt64), .long 1, .long 100000]) m_X12_64 dX12_dimension_14 rfl rfl (Nat.le_of_ble_eq_true rfl) h (fun x4 w3 h => ?_)
    refine z_if_ne 23 dX12_dimension_17 rfl (fun hc => ?_) (fun hc => ?_)
    · rw [if_neg hc] at h
      refine z_iconst 1 dX12_dimension_23 rfl ?_
      refine z_istore_n (i := 3) dX12_dimension_24 rfl (by decide) rfl ?_
      exact h
    · rw [if_pos hc] at h
      refine z_bipush (-2) dX12_dimension_20 rfl ?_
      exact z_ireturn .int dX12_dimension_22 rfl rfl h
set_option maxRecDepth 100000 in
set_option maxHeartbeats 4000000 in
theorem bX12_dimension_25 {X : zX} {d kc ks : Nat} {w : zW} {Q : Option Value → zW → Prop} (v0 : Nat) (v1 : Int32) (v2 : Int32) (v3 : Int32)
    (h : if 4 < v3 then (Q (some (.int (-1))) w) else (zIs w v0 11 ∧ zCallI X d MX12_sought [.ref v0, .int v1, .int v3, .int v2] w (fun x2 w1 => if x2 = 0 then (zRn X d kc ks MX12_dimension 25 [some (.ref v0), some (.int v1), some (.int v2), some (.int (v3 + 1)), none] [] w1 Q) else (if x2 = 1 then (Q (some (.int v3)) w1) else (Q (some (.int (-3))) w1))))) :
    zRn X d kc ks MX12_dimension 25 [some (.ref v0), some (.int v1), some (.int v2), some (.int v3), none] [] w Q := by
  refine z_iload_n v3 dX12_dimension_25 rfl rfl ?_
  refine z_iconst 4 dX12_dimension_26 rfl ?_
  refine z_icmp_gt 63 dX12_dimension_27 rfl (fun hc => ?_) (fun hc => ?_)
  · rw [if_pos hc] at h
    refine z_iconst (-1) dX12_dimension_63 rfl ?_
    exact z_ireturn .int dX12_dimension_64 rfl rfl h
  · rw [if_neg hc] at h
    refine z_aload_n v0 dX12_dimension_30 rfl rfl ?_
    refine z_iload_n v1 dX12_dimension_31 rfl rfl ?_
    refine z_iload_n v3 dX12_dimension_32 rfl rfl ?_
    refine z_iload_n v2 dX12_dimension_33 rfl rfl ?_
    refine zq_VI (N := MX12_sought) (As := [.int v1, .int v3, .int v2]) m_X12_358 dX12_dimension_34 rfl rfl (Nat.le_of_ble_eq_true rfl) h (fun x2 w1 h => ?_)
    refine z_istore (i := 4) dX12_dimension_37 (by decide) rfl ?_
    refine z_iload x2 dX12_dimension_39 rfl ?_
    refine z_if_eq 57 dX12_dimension_41 rfl (fun hc => ?_) (fun hc => ?_)
    · rw [if_pos hc] at h
      refine z_iinc (i := 3) v3 (v3 + 1) dX12_dimension_57 rfl rfl (by decide) rfl ?_
      refine z_goto 25 dX12_dimension_60 rfl ?_
      exact zRn.weak h (zLe_of [true, true, true, true, false] (And.intro rfl (And.intro rfl (And.intro rfl (And.intro rfl (And.intro rfl (trivial)))))))
    · rw [if_neg hc] at h
      refine z_iload x2 dX12_dimension_44 rfl ?_
      refine z_iconst 1 dX12_dimension_46 rfl ?_
      refine z_icmp_ne 54 dX12_dimension_47 rfl (fun hc => ?_) (fun hc => ?_)
      · rw [if_neg hc] at h
        refine z_bipush (-3) dX12_dimension_54 rfl ?_
        exact z_ireturn .int dX12_dimension_56 rfl rfl h
      · rw [if_pos hc] at h
        refine z_iload_n v3 dX12_dimension_50 rfl rfl ?_
        refine z_goto 56 dX12_dimension_51 rfl ?_
        exact z_ireturn .int dX12_dimension_56 rfl rfl h
theorem eX12_dimension {X : zX} {d kc ks : Nat} {w : zW} {Q : Option Value → zW → Prop} (p0 : Nat) (a1 : Int32) (a2 : Int32) (h : zRn X d kc ks MX12_dimension 0 [some (.ref p0), some (.int a1), some (.int a2), none, none] [] w Q) : zEv X d kc ks MX12_dimension [.ref p0, .int a1, .int a2] w Q :=
  zEv.of (by decide) (Nat.le_of_ble_eq_true rfl) (Or.inr (by simp [Value.category])) h
set_option maxRecDepth 100000 in
set_option maxHeartbeats 4000000 in
theorem bX12_row_0 {X : zX} {d kc ks : Nat} {w : zW} {Q : Option Value → zW → Prop} (p0 : Nat) (a1 : Int32) (a2 : Int32) (a3 : Int32)
    (h : zIs w p0 11 ∧ zCallI X d MX12_isRow [.ref p0, .int a1, .int a2] w (fun x2 w1 => if x2 = 0 then (Q (some (.int (-2))) w1) else (zIs w1 p0 11 ∧ zCallI X d MX12_many [.ref p0, .int a1] w1 (fun x4 w3 => zCallI X d MX12_in [.long ((a3 : Int32).toInt64), .long 0, .long ((x4 - 1 : Int32).toInt64)] w3 (fun x6 w5 => if x6 = 0 then (Q (some (.int (-2))) w5) else (zIs w5 p0 11 ∧ zCallI X d MX12_rowAt [.ref p0, .int a1, .int a2, .int a3] w5 (fun x8 w7 => Q (some (.int x8)) w7))))))) :
    zRn X d kc ks MX12_row 0 [some (.ref p0), some (.int a1), some (.int a2), some (.int a3)] [] w Q := by
  refine z_aload_n p0 dX12_row_0 rfl rfl ?_
  refine z_iload_n a1 dX12_row_1 rfl rfl ?_
  refine z_iload_n a2 dX12_row_2 rfl rfl ?_
  refine zq_VI (N := MX12_isRow) (As := [.int a1, .int a2]) m_X12_295 dX12_row_3 rfl rfl (Nat.le_of_ble_eq_true rfl) h (fun x2 w1 h => ?_)
  refine z_if_eq 36 dX12_row_6 rfl (fun hc => ?_) (fun hc => ?_)
  · rw [if_pos hc] at h
    refine z_bipush (-2) dX12_row_36 rfl ?_
    exact z_ireturn .int dX12_row_38 rfl rfl h
  · rw [if_neg hc] at h
    refine z_iload_n a3 dX12_row_9 rfl rfl ?_
    refine z_i2l dX12_row_10 ?_
    refine z_lconst 0 dX12_row_11 rfl ?_
    refine z_aload_n p0 dX12_row_12 rfl rfl ?_
    refine z_iload_n a1 dX12_row_13 rfl rfl ?_
    refine zq_VI (N := MX12_many) (As := [.int a1]) m_X12_76 dX12_row_14 rfl rfl (Nat.le_of_ble_eq_true rfl) h (fun x4 w3 h => ?_)
    refine z_iconst 1 dX12_row_17 rfl ?_
    refine z_isub dX12_row_18 ?_
    refine z_i2l dX12_row_19 ?_
    refine zq_SI (N := MX12_in) (As := [.long ((a3 : Int32).toInt64), .long 0, .long ((x4 - 1 : Int32).toInt64)]) m_X12_64 dX12_row_20 rfl rfl (Nat.le_of_ble_eq_true rfl) h (fun x6 w5 h => ?_)
    refine z_if_eq 36 dX12_row_23 rfl (fun hc => ?_) (fun hc => ?_)
    · rw [if_pos hc] at h
      refine z_bipush (-2) dX12_row_36 rfl ?_
      exact z_ireturn .int dX12_row_38 rfl rfl h
    · rw [if_neg hc] at h
      refine z_aload_n p0 dX12_row_26 rfl rfl ?_
      refine z_iload_n a1 dX12_row_27 rfl rfl ?_
      refine z_iload_n a2 dX12_row_28 rfl rfl ?_
      refine z_iload_n a3 dX12_row_29 rfl rfl ?_
      refine zq_VI (N := MX12_rowAt) (As := [.int a1, .int a2, .int a3]) m_X12_291 dX12_row_30 rfl rfl (Nat.le_of_ble_eq_true rfl) h (fun x8 w7 h => ?_)
      refine z_goto 38 dX12_row_33 rfl ?_
      exact z_ireturn .int dX12_row_38 rfl rfl h
theorem eX12_row {X : zX} {d kc ks : Nat} {w : zW} {Q : Option Value → zW → Prop} (p0 : Nat) (a1 : Int32) (a2 : Int32) (a3 : Int32) (h : zRn X d kc ks MX12_row 0 [some (.ref p0), some (.int a1), some (.int a2), some (.int a3)] [] w Q) : zEv X d kc ks MX12_row [.ref p0, .int a1, .int a2, .int a3] w Q :=
  zEv.of (by decide) (Nat.le_of_ble_eq_true rfl) (Or.inr (by simp [Value.category])) h
set_option maxRecDepth 100000 in
set_option maxHeartbeats 4000000 in
theorem bX12_adds_0 {X : zX} {d kc ks : Nat} {w : zW} {Q : Option Value → zW → Prop} (p0 : Nat) (a1 : Int32) (a2 : Int32)
    (h : zIs w p0 11 ∧ zCallI X d MX12_isOrder [.ref p0, .int a1] w (fun x2 w1 => if x2 = 0 then (Q (some (.int (-2))) w1) else (if 0 ≤ a2 then (zIs w1 p0 11 ∧ zCallI X d MX12_laysLine [.ref p0, .int a1, .int a2] w1 (fun x4 w3 => if x4 = 0 then (Q (some (.int (-1))) w3) else (zIs w3 p0 11 ∧ zCallI X d MX12_rows [.ref p0, .int a1] w3 (fun x6 w5 => if x6 = 6 then (Q (some (.int (-5))) w5) else (zIs w5 p0 11 ∧ zCallV X d MX12_remembers [.ref p0] w5 (fun w7 => zRn X d kc ks MX12_adds 45 [some (.ref p0), some (.int a1), none, some (.int 0)] [] w7 Q)))))) else (Q (some (.int (-2))) w1)))) :
    zRn X d kc ks MX12_adds 0 [some (.ref p0), some (.int a1), some (.int a2), none] [] w Q := by
  refine z_aload_n p0 dX12_adds_0 rfl rfl ?_
  refine z_iload_n a1 dX12_adds_1 rfl rfl ?_
  refine zq_VI (N := MX12_isOrder) (As := [.int a1]) m_X12_80 dX12_adds_2 rfl rfl (Nat.le_of_ble_eq_true rfl) h (fun x2 w1 h => ?_)
  refine z_if_eq 12 dX12_adds_5 rfl (fun hc => ?_) (fun hc => ?_)
  · rw [if_pos hc] at h
    refine z_bipush (-2) dX12_adds_12 rfl ?_
    exact z_ireturn .int dX12_adds_14 rfl rfl h
  · rw [if_neg hc] at h
    refine z_iload_n a2 dX12_adds_8 rfl rfl ?_
    refine z_if_ge 15 dX12_adds_9 rfl (fun hc => ?_) (fun hc => ?_)
    · rw [if_pos hc] at h
      refine z_aload_n p0 dX12_adds_15 rfl rfl ?_
      refine z_iload_n a1 dX12_adds_16 rfl rfl ?_
      refine z_iload_n a2 dX12_adds_17 rfl rfl ?_
      refine zq_VI (N := MX12_laysLine) (As := [.int a1, .int a2]) m_X12_288 dX12_adds_18 rfl rfl (Nat.le_of_ble_eq_true rfl) h (fun x4 w3 h => ?_)
      refine z_if_ne 26 dX12_adds_21 rfl (fun hc => ?_) (fun hc => ?_)
      · rw [if_neg hc] at h
        refine z_aload_n p0 dX12_adds_26 rfl rfl ?_
        refine z_iload_n a1 dX12_adds_27 rfl rfl ?_
        refine zq_VI (N := MX12_rows) (As := [.int a1]) m_X12_83 dX12_adds_28 rfl rfl (Nat.le_of_ble_eq_true rfl) h (fun x6 w5 h => ?_)
        refine z_bipush 6 dX12_adds_31 rfl ?_
        refine z_icmp_ne 39 dX12_adds_33 rfl (fun hc => ?_) (fun hc => ?_)
        · rw [if_neg hc] at h
          refine z_aload_n p0 dX12_adds_39 rfl rfl ?_
          refine zq_VV (N := MX12_remembers) (As := []) m_X12_113 dX12_adds_40 rfl rfl (Nat.le_of_ble_eq_true rfl) h (fun w7 h => ?_)
          refine z_iconst 0 dX12_adds_43 rfl ?_
          refine z_istore_n (i := 3) dX12_adds_44 rfl (by decide) rfl ?_
          exact zRn.weak h (zLe_of [true, true, false, true] (And.intro rfl (And.intro rfl (And.intro rfl (And.intro rfl (trivial))))))
        · rw [if_pos hc] at h
          refine z_bipush (-5) dX12_adds_36 rfl ?_
          exact z_ireturn .int dX12_adds_38 rfl rfl h
      · rw [if_pos hc] at h
        refine z_iconst (-1) dX12_adds_24 rfl ?_
        exact z_ireturn .int dX12_adds_25 rfl rfl h
    · rw [if_neg hc] at h
      refine z_bipush (-2) dX12_adds_12 rfl ?_
      exact z_ireturn .int dX12_adds_14 rfl rfl h
set_option maxRecDepth 100000 in
set_option maxHeartbeats 4000000 in
theorem bX12_adds_45 {X : zX} {d kc ks : Nat} {w : zW} {Q : Option Value → zW → Prop} (v0 : Nat) (v1 : Int32) (v3 : Int32)
    (h : zIs w v0 11 ∧ zCallI X d MX12_many [.ref v0, .int v1] w (fun x2 w1 => if x2 ≤ v3 then (zIs w1 v0 11 ∧ zCallI X d MX12_rows [.ref v0, .int v1] w1 (fun x4 w3 => zIs w3 v0 11 ∧ zCallV X d MX12_lays [.ref v0, .int v1, .int 9, .int (x4 + 1)] w3 (fun w5 => zIs w5 v0 11 ∧ zCallI X d MX12_rows [.ref v0, .int v1] w5 (fun x7 w6 => zIs w6 v0 11 ∧ zCallI X d MX12_keeps [.ref v0, .int x7] w6 (fun x9 w8 => Q (some (.int x9)) w8))))) else (zIs w1 v0 11 ∧ zCallI X d MX12_rows [.ref v0, .int v1] w1 (fun x11 w10 => ∃ r12, zfR w10 v0 11 17 = some r12 ∧ (∃ x13, zaI w10 r12 v3 = some x13 ∧ (zIs w10 v0 11 ∧ zCallV X d MX12_lays [.ref v0, .int v1, .int (((10 : Int32) + ((8 : Int32) * x11)) + v3), .int x13] w10 (fun w14 => zRn X d kc ks MX12_adds 45 [some (.ref v0), some (.int v1), none, some (.int (v3 + 1))] [] w14 Q))))))) :
    zRn X d kc ks MX12_adds 45 [some (.ref v0), some (.int v1), none, some (.int v3)] [] w Q := by
  refine z_iload_n v3 dX12_adds_45 rfl rfl ?_
  refine z_aload_n v0 dX12_adds_46 rfl rfl ?_
  refine z_iload_n v1 dX12_adds_47 rfl rfl ?_
  refine zq_VI (N := MX12_many) (As := [.int v1]) m_X12_76 dX12_adds_48 rfl rfl (Nat.le_of_ble_eq_true rfl) h (fun x2 w1 h => ?_)
  refine z_icmp_ge 84 dX12_adds_51 rfl (fun hc => ?_) (fun hc => ?_)
  · rw [if_pos hc] at h
    refine z_aload_n v0 dX12_adds_84 rfl rfl ?_
    refine z_iload_n v1 dX12_adds_85 rfl rfl ?_
    refine z_bipush 9 dX12_adds_86 rfl ?_
    refine z_aload_n v0 dX12_adds_88 rfl rfl ?_
    refine z_iload_n v1 dX12_adds_89 rfl rfl ?_
    refine zq_VI (N := MX12_rows) (As := [.int v1]) m_X12_83 dX12_adds_90 rfl rfl (Nat.le_of_ble_eq_true rfl) h (fun x4 w3 h => ?_)
    refine z_iconst 1 dX12_adds_93 rfl ?_
    refine z_iadd dX12_adds_94 ?_
    refine zq_VV (N := MX12_lays) (As := [.int v1, .int 9, .int (x4 + 1)]) m_X12_109 dX12_adds_95 rfl rfl (Nat.le_of_ble_eq_true rfl) h (fun w5 h => ?_)
    refine z_aload_n v0 dX12_adds_98 rfl rfl ?_
    refine z_aload_n v0 dX12_adds_99 rfl rfl ?_
    refine z_iload_n v1 dX12_adds_100 rfl rfl ?_
    refine zq_VI (N := MX12_rows) (As := [.int v1]) m_X12_83 dX12_adds_101 rfl rfl (Nat.le_of_ble_eq_true rfl) h (fun x7 w6 h => ?_)
    refine zq_VI (N := MX12_keeps) (As := [.int x7]) m_X12_106 dX12_adds_104 rfl rfl (Nat.le_of_ble_eq_true rfl) h (fun x9 w8 h => ?_)
    exact z_ireturn .int dX12_adds_107 rfl rfl h
  · rw [if_neg hc] at h
    refine z_aload_n v0 dX12_adds_54 rfl rfl ?_
    refine z_iload_n v1 dX12_adds_55 rfl rfl ?_
    refine z_bipush 10 dX12_adds_56 rfl ?_
    refine z_bipush 8 dX12_adds_58 rfl ?_
    refine z_aload_n v0 dX12_adds_60 rfl rfl ?_
    refine z_iload_n v1 dX12_adds_61 rfl rfl ?_
    refine zq_VI (N := MX12_rows) (As := [.int v1]) m_X12_83 dX12_adds_62 rfl rfl (Nat.le_of_ble_eq_true rfl) h (fun x11 w10 h => ?_)
    refine z_imul dX12_adds_65 ?_
    refine z_iadd dX12_adds_66 ?_
    refine z_iload_n v3 dX12_adds_67 rfl rfl ?_
    refine z_iadd dX12_adds_68 ?_
    refine z_aload_n v0 dX12_adds_69 rfl rfl ?_
    obtain ⟨r12, e, h⟩ := h
    refine zq_fR f_X12_35 dX12_adds_70 e ?_
    refine z_iload_n v3 dX12_adds_73 rfl rfl ?_
    obtain ⟨x13, e, h⟩ := h
    refine zq_aI dX12_adds_74 e ?_
    refine zq_VV (N := MX12_lays) (As := [.int v1, .int (((10 : Int32) + ((8 : Int32) * x11)) + v3), .int x13]) m_X12_109 dX12_adds_75 rfl rfl (Nat.le_of_ble_eq_true rfl) h (fun w14 h => ?_)
    refine z_iinc (i := 3) v3 (v3 + 1) dX12_adds_78 rfl rfl (by decide) rfl ?_
    refine z_goto 45 dX12_adds_81 rfl ?_
    exact h
theorem eX12_adds {X : zX} {d kc ks : Nat} {w : zW} {Q : Option Value → zW → Prop} (p0 : Nat) (a1 : Int32) (a2 : Int32) (h : zRn X d kc ks MX12_adds 0 [some (.ref p0), some (.int a1), some (.int a2), none] [] w Q) : zEv X d kc ks MX12_adds [.ref p0, .int a1, .int a2] w Q :=
  zEv.of (by decide) (Nat.le_of_ble_eq_true rfl) (Or.inr (by simp [Value.category])) h
set_option maxRecDepth 100000 in
set_option maxHeartbeats 4000000 in
theorem bX12_takes_0 {X : zX} {d kc ks : Nat} {w : zW} {Q : Option Value → zW → Prop} (p0 : Nat) (a1 : Int32) (a2 : Int32)
    (h : zIs w p0 11 ∧ zCallI X d MX12_isRow [.ref p0, .int a1, .int a2] w (fun x2 w1 => if x2 = 0 then (Q (some (.int (-2))) w1) else (zIs w1 p0 11 ∧ zCallV X d MX12_remembers [.ref p0] w1 (fun w3 => zRn X d kc ks MX12_takes 27 [some (.ref p0), some (.int a1), none, none, some (.int ((10 : Int32) + ((8 : Int32) * a2)))] [] w3 Q)))) :
    zRn X d kc ks MX12_takes 0 [some (.ref p0), some (.int a1), some (.int a2), none, none] [] w Q := by
  refine z_aload_n p0 dX12_takes_0 rfl rfl ?_
  refine z_iload_n a1 dX12_takes_1 rfl rfl ?_
  refine z_iload_n a2 dX12_takes_2 rfl rfl ?_
  refine zq_VI (N := MX12_isRow) (As := [.int a1, .int a2]) m_X12_295 dX12_takes_3 rfl rfl (Nat.le_of_ble_eq_true rfl) h (fun x2 w1 h => ?_)
  refine z_if_ne 12 dX12_takes_6 rfl (fun hc => ?_) (fun hc => ?_)
  · rw [if_neg hc] at h
    refine z_aload_n p0 dX12_takes_12 rfl rfl ?_
    refine zq_VV (N := MX12_remembers) (As := []) m_X12_113 dX12_takes_13 rfl rfl (Nat.le_of_ble_eq_true rfl) h (fun w3 h => ?_)
    refine z_bipush 10 dX12_takes_16 rfl ?_
    refine z_bipush 8 dX12_takes_18 rfl ?_
    refine z_iload_n a2 dX12_takes_20 rfl rfl ?_
    refine z_imul dX12_takes_21 ?_
    refine z_iadd dX12_takes_22 ?_
    refine z_istore_n (i := 3) dX12_takes_23 rfl (by decide) rfl ?_
    refine z_iload_n ((10 : Int32) + ((8 : Int32) * a2)) dX12_takes_24 rfl rfl ?_
    refine z_istore (i := 4) dX12_takes_25 (by decide) rfl ?_
    exact zRn.weak h (zLe_of [true, true, false, false, true] (And.intro rfl (And.intro rfl (And.intro rfl (And.intro rfl (And.intro rfl (trivial)))))))
  · rw [if_pos hc] at h
    refine z_bipush (-2) dX12_takes_9 rfl ?_
    exact z_ireturn .int dX12_takes_11 rfl rfl h
set_option maxRecDepth 100000 in
set_option maxHeartbeats 4000000 in
theorem bX12_takes_27 {X : zX} {d kc ks : Nat} {w : zW} {Q : Option Value → zW → Prop} (v0 : Nat) (v1 : Int32) (v4 : Int32)
    (h : if 58 ≤ v4 then (zIs w v0 11 ∧ zCallI X d MX12_rows [.ref v0, .int v1] w (fun x2 w1 => zIs w1 v0 11 ∧ zCallV X d MX12_lays [.ref v0, .int v1, .int 9, .int (x2 - 1)] w1 (fun w3 => zIs w3 v0 11 ∧ zCallI X d MX12_rows [.ref v0, .int v1] w3 (fun x5 w4 => zIs w4 v0 11 ∧ zCallI X d MX12_keeps [.ref v0, .int x5] w4 (fun x7 w6 => Q (some (.int x7)) w6))))) else (if 58 ≤ (v4 + 8) then (zRn X d kc ks MX12_takes 62 [some (.ref v0), some (.int v1), none, none, some (.int v4)] [.int 0, .int v4, .int v1, .ref v0] w Q) else (zIs w v0 11 ∧ zCallI X d MX12_of [.ref v0, .int v1, .int (v4 + 8)] w (fun x9 w8 => zRn X d kc ks MX12_takes 62 [some (.ref v0), some (.int v1), none, none, some (.int v4)] [.int x9, .int v4, .int v1, .ref v0] w8 Q)))) :
    zRn X d kc ks MX12_takes 27 [some (.ref v0), some (.int v1), none, none, some (.int v4)] [] w Q := by
  refine z_iload v4 dX12_takes_27 rfl ?_
  refine z_bipush 58 dX12_takes_29 rfl ?_
  refine z_icmp_ge 71 dX12_takes_31 rfl (fun hc => ?_) (fun hc => ?_)
  · rw [if_pos hc] at h
    refine z_aload_n v0 dX12_takes_71 rfl rfl ?_
    refine z_iload_n v1 dX12_takes_72 rfl rfl ?_
    refine z_bipush 9 dX12_takes_73 rfl ?_
    refine z_aload_n v0 dX12_takes_75 rfl rfl ?_
    refine z_iload_n v1 dX12_takes_76 rfl rfl ?_
    refine zq_VI (N := MX12_rows) (As := [.int v1]) m_X12_83 dX12_takes_77 rfl rfl (Nat.le_of_ble_eq_true rfl) h (fun x2 w1 h => ?_)
    refine z_iconst 1 dX12_takes_80 rfl ?_
    refine z_isub dX12_takes_81 ?_
    refine zq_VV (N := MX12_lays) (As := [.int v1, .int 9, .int (x2 - 1)]) m_X12_109 dX12_takes_82 rfl rfl (Nat.le_of_ble_eq_true rfl) h (fun w3 h => ?_)
    refine z_aload_n v0 dX12_takes_85 rfl rfl ?_
    refine z_aload_n v0 dX12_takes_86 rfl rfl ?_
    refine z_iload_n v1 dX12_takes_87 rfl rfl ?_
    refine zq_VI (N := MX12_rows) (As := [.int v1]) m_X12_83 dX12_takes_88 rfl rfl (Nat.le_of_ble_eq_true rfl) h (fun x5 w4 h => ?_)
    refine zq_VI (N := MX12_keeps) (As := [.int x5]) m_X12_106 dX12_takes_91 rfl rfl (Nat.le_of_ble_eq_true rfl) h (fun x7 w6 h => ?_)
    exact z_ireturn .int dX12_takes_94 rfl rfl h
  · rw [if_neg hc] at h
    refine z_aload_n v0 dX12_takes_34 rfl rfl ?_
    refine z_iload_n v1 dX12_takes_35 rfl rfl ?_
    refine z_iload v4 dX12_takes_36 rfl ?_
    refine z_iload v4 dX12_takes_38 rfl ?_
    refine z_bipush 8 dX12_takes_40 rfl ?_
    refine z_iadd dX12_takes_42 ?_
    refine z_bipush 58 dX12_takes_43 rfl ?_
    refine z_icmp_ge 61 dX12_takes_45 rfl (fun hc => ?_) (fun hc => ?_)
    · rw [if_pos hc] at h
      refine z_iconst 0 dX12_takes_61 rfl ?_
      exact h
    · rw [if_neg hc] at h
      refine z_aload_n v0 dX12_takes_48 rfl rfl ?_
      refine z_iload_n v1 dX12_takes_49 rfl rfl ?_
      refine z_iload v4 dX12_takes_50 rfl ?_
      refine z_bipush 8 dX12_takes_52 rfl ?_
      refine z_iadd dX12_takes_54 ?_
      refine zq_VI (N := MX12_of) (As := [.int v1, .int (v4 + 8)]) m_X12_68 dX12_takes_55 rfl rfl (Nat.le_of_ble_eq_true rfl) h (fun x9 w8 h => ?_)
      refine z_goto 62 dX12_takes_58 rfl ?_
      exact h
set_option maxRecDepth 100000 in
set_option maxHeartbeats 4000000 in
theorem bX12_takes_62 {X : zX} {d kc ks : Nat} {w : zW} {Q : Option Value → zW → Prop} (v0 : Nat) (v1 : Int32) (v4 : Int32) (u0 : Int32) (u1 : Int32) (u2 : Int32) (u3 : Nat)
    (h : zIs w u3 11 ∧ zCallV X d MX12_lays [.ref u3, .int u2, .int u1, .int u0] w (fun w1 => zRn X d kc ks MX12_takes 27 [some (.ref v0), some (.int v1), none, none, some (.int (v4 + 1))] [] w1 Q)) :
    zRn X d kc ks MX12_takes 62 [some (.ref v0), some (.int v1), none, none, some (.int v4)] [.int u0, .int u1, .int u2, .ref u3] w Q := by
  refine zq_VV (N := MX12_lays) (As := [.int u2, .int u1, .int u0]) m_X12_109 dX12_takes_62 rfl rfl (Nat.le_of_ble_eq_true rfl) h (fun w1 h => ?_)
  refine z_iinc (i := 4) v4 (v4 + 1) dX12_takes_65 rfl rfl (by decide) rfl ?_
  refine z_goto 27 dX12_takes_68 rfl ?_
  exact h
theorem eX12_takes {X : zX} {d kc ks : Nat} {w : zW} {Q : Option Value → zW → Prop} (p0 : Nat) (a1 : Int32) (a2 : Int32) (h : zRn X d kc ks MX12_takes 0 [some (.ref p0), some (.int a1), some (.int a2), none, none] [] w Q) : zEv X d kc ks MX12_takes [.ref p0, .int a1, .int a2] w Q :=
  zEv.of (by decide) (Nat.le_of_ble_eq_true rfl) (Or.inr (by simp [Value.category])) h
set_option maxRecDepth 100000 in
set_option maxHeartbeats 4000000 in
theorem bX12_puts_0 {X : zX} {d kc ks : Nat} {w : zW} {Q : Option Value → zW → Prop} (p0 : Nat) (a1 : Int32) (a2 : Int32) (a3 : Int32)
    (h : zIs w p0 11 ∧ zCallI X d MX12_isThing [.ref p0, .int a1, .int a2] w (fun x2 w1 => if x2 = 0 then (Q (some (.int (-2))) w1) else (zIs w1 p0 11 ∧ zCallI X d MX12_isThing [.ref p0, .int a1, .int a3] w1 (fun x4 w3 => if x4 = 0 then (Q (some (.int (-2))) w3) else (if a2 = a3 then (Q (some (.int (-6))) w3) else (zIs w3 p0 11 ∧ zCallI X d MX12_isBelow [.ref p0, .int a1, .int a3, .int a2] w3 (fun x6 w5 => if x6 = 0 then (zIs w5 p0 11 ∧ zCallI X d MX12_isBelow [.ref p0, .int a1, .int a2, .int a3] w5 (fun x8 w7 => if x8 = 0 then (zIs w7 p0 11 ∧ zCallV X d MX12_remembers [.ref p0] w7 (fun w9 => zIs w9 p0 11 ∧ zCallI X d MX12_belowMany [.ref p0, .int a1] w9 (fun x11 w10 => zIs w10 p0 11 ∧ zCallV X d MX12_lies [.ref p0, .int a1, .int a2, .int a3] w10 (fun w12 => zIs w12 p0 11 ∧ zCallI X d MX12_belowMany [.ref p0, .int a1] w12 (fun x14 w13 => zIs w13 p0 11 ∧ zCallI X d MX12_keeps [.ref p0, .int (x14 - x11)] w13 (fun x16 w15 => Q (some (.int x16)) w15)))))) else (Q (some (.int 0)) w7))) else (Q (some (.int (-6))) w5)))))))) :
    zRn X d kc ks MX12_puts 0 [some (.ref p0), some (.int a1), some (.int a2), some (.int a3), none] [] w Q := by
  refine z_aload_n p0 dX12_puts_0 rfl rfl ?_
  refine z_iload_n a1 dX12_puts_1 rfl rfl ?_
  refine z_iload_n a2 dX12_puts_2 rfl rfl ?_
  refine zq_VI (N := MX12_isThing) (As := [.int a1, .int a2]) m_X12_215 dX12_puts_3 rfl rfl (Nat.le_of_ble_eq_true rfl) h (fun x2 w1 h => ?_)
  refine z_if_eq 18 dX12_puts_6 rfl (fun hc => ?_) (fun hc => ?_)
  · rw [if_pos hc] at h
    refine z_bipush (-2) dX12_puts_18 rfl ?_
    exact z_ireturn .int dX12_puts_20 rfl rfl h
  · rw [if_neg hc] at h
    refine z_aload_n p0 dX12_puts_9 rfl rfl ?_
    refine z_iload_n a1 dX12_puts_10 rfl rfl ?_
    refine z_iload_n a3 dX12_puts_11 rfl rfl ?_
    refine zq_VI (N := MX12_isThing) (As := [.int a1, .int a3]) m_X12_215 dX12_puts_12 rfl rfl (Nat.le_of_ble_eq_true rfl) h (fun x4 w3 h => ?_)
    refine z_if_ne 21 dX12_puts_15 rfl (fun hc => ?_) (fun hc => ?_)
    · rw [if_neg hc] at h
      refine z_iload_n a2 dX12_puts_21 rfl rfl ?_
      refine z_iload_n a3 dX12_puts_22 rfl rfl ?_
      refine z_icmp_eq 36 dX12_puts_23 rfl (fun hc => ?_) (fun hc => ?_)
      · rw [if_pos hc] at h
        refine z_bipush (-6) dX12_puts_36 rfl ?_
        exact z_ireturn .int dX12_puts_38 rfl rfl h
      · rw [if_neg hc] at h
        refine z_aload_n p0 dX12_puts_26 rfl rfl ?_
        refine z_iload_n a1 dX12_puts_27 rfl rfl ?_
        refine z_iload_n a3 dX12_puts_28 rfl rfl ?_
        refine z_iload_n a2 dX12_puts_29 rfl rfl ?_
        refine zq_VI (N := MX12_isBelow) (As := [.int a1, .int a3, .int a2]) m_X12_93 dX12_puts_30 rfl rfl (Nat.le_of_ble_eq_true rfl) h (fun x6 w5 h => ?_)
        refine z_if_eq 39 dX12_puts_33 rfl (fun hc => ?_) (fun hc => ?_)
        · rw [if_pos hc] at h
          refine z_aload_n p0 dX12_puts_39 rfl rfl ?_
          refine z_iload_n a1 dX12_puts_40 rfl rfl ?_
          refine z_iload_n a2 dX12_puts_41 rfl rfl ?_
          refine z_iload_n a3 dX12_puts_42 rfl rfl ?_
          refine zq_VI (N := MX12_isBelow) (As := [.int a1, .int a2, .int a3]) m_X12_93 dX12_puts_43 rfl rfl (Nat.le_of_ble_eq_true rfl) h (fun x8 w7 h => ?_)
          refine z_if_eq 51 dX12_puts_46 rfl (fun hc => ?_) (fun hc => ?_)
          · rw [if_pos hc] at h
            refine z_aload_n p0 dX12_puts_51 rfl rfl ?_
            refine zq_VV (N := MX12_remembers) (As := []) m_X12_113 dX12_puts_52 rfl rfl (Nat.le_of_ble_eq_true rfl) h (fun w9 h => ?_)
            refine z_aload_n p0 dX12_puts_55 rfl rfl ?_
            refine z_iload_n a1 dX12_puts_56 rfl rfl ?_
            refine zq_VI (N := MX12_belowMany) (As := [.int a1]) m_X12_199 dX12_puts_57 rfl rfl (Nat.le_of_ble_eq_true rfl) h (fun x11 w10 h => ?_)
            refine z_istore (i := 4) dX12_puts_60 (by decide) rfl ?_
            refine z_aload_n p0 dX12_puts_62 rfl rfl ?_
            refine z_iload_n a1 dX12_puts_63 rfl rfl ?_
            refine z_iload_n a2 dX12_puts_64 rfl rfl ?_
            refine z_iload_n a3 dX12_puts_65 rfl rfl ?_
            refine zq_VV (N := MX12_lies) (As := [.int a1, .int a2, .int a3]) m_X12_179 dX12_puts_66 rfl rfl (Nat.le_of_ble_eq_true rfl) h (fun w12 h => ?_)
            refine z_aload_n p0 dX12_puts_69 rfl rfl ?_
            refine z_aload_n p0 dX12_puts_70 rfl rfl ?_
            refine z_iload_n a1 dX12_puts_71 rfl rfl ?_
            refine zq_VI (N := MX12_belowMany) (As := [.int a1]) m_X12_199 dX12_puts_72 rfl rfl (Nat.le_of_ble_eq_true rfl) h (fun x14 w13 h => ?_)
            refine z_iload x11 dX12_puts_75 rfl ?_
            refine z_isub dX12_puts_77 ?_
            refine zq_VI (N := MX12_keeps) (As := [.int (x14 - x11)]) m_X12_106 dX12_puts_78 rfl rfl (Nat.le_of_ble_eq_true rfl) h (fun x16 w15 h => ?_)
            exact z_ireturn .int dX12_puts_81 rfl rfl h
          · rw [if_neg hc] at h
            refine z_iconst 0 dX12_puts_49 rfl ?_
            exact z_ireturn .int dX12_puts_50 rfl rfl h
        · rw [if_neg hc] at h
          refine z_bipush (-6) dX12_puts_36 rfl ?_
          exact z_ireturn .int dX12_puts_38 rfl rfl h
    · rw [if_pos hc] at h
      refine z_bipush (-2) dX12_puts_18 rfl ?_
      exact z_ireturn .int dX12_puts_20 rfl rfl h
theorem eX12_puts {X : zX} {d kc ks : Nat} {w : zW} {Q : Option Value → zW → Prop} (p0 : Nat) (a1 : Int32) (a2 : Int32) (a3 : Int32) (h : zRn X d kc ks MX12_puts 0 [some (.ref p0), some (.int a1), some (.int a2), some (.int a3), none] [] w Q) : zEv X d kc ks MX12_puts [.ref p0, .int a1, .int a2, .int a3] w Q :=
  zEv.of (by decide) (Nat.le_of_ble_eq_true rfl) (Or.inr (by simp [Value.category])) h
set_option maxRecDepth 100000 in
set_option maxHeartbeats 4000000 in
theorem bX12_cuts_0 {X : zX} {d kc ks : Nat} {w : zW} {Q : Option Value → zW → Prop} (p0 : Nat) (a1 : Int32) (a2 : Int32) (a3 : Int32)
    (h : zIs w p0 11 ∧ zCallI X d MX12_isThing [.ref p0, .int a1, .int a2] w (fun x2 w1 => if x2 = 0 then (Q (some (.int (-2))) w1) else (zIs w1 p0 11 ∧ zCallI X d MX12_isThing [.ref p0, .int a1, .int a3] w1 (fun x4 w3 => if x4 = 0 then (Q (some (.int (-2))) w3) else (zIs w3 p0 11 ∧ zCallI X d MX12_isCover [.ref p0, .int a1, .int a2, .int a3] w3 (fun x6 w5 => if x6 = 0 then (Q (some (.int (-6))) w5) else (zIs w5 p0 11 ∧ zCallV X d MX12_remembers [.ref p0] w5 (fun w7 => zIs w7 p0 11 ∧ zCallI X d MX12_under [.ref p0, .int a1, .int a3] w7 (fun x9 w8 => zIs w8 p0 11 ∧ zCallV X d MX12_lays [.ref p0, .int a1, .int ((1 : Int32) + a3), .int (x9 &&& (((1 : Int32) <<< (a2 &&& 31)) ^^^ (-1)))] w8 (fun w10 => zIs w10 p0 11 ∧ zCallI X d MX12_belowMany [.ref p0, .int a1] w10 (fun x12 w11 => zIs w11 p0 11 ∧ zCallI X d MX12_keeps [.ref p0, .int x12] w11 (fun x14 w13 => Q (some (.int x14)) w13)))))))))))) :
    zRn X d kc ks MX12_cuts 0 [some (.ref p0), some (.int a1), some (.int a2), some (.int a3)] [] w Q := by
  refine z_aload_n p0 dX12_cuts_0 rfl rfl ?_
  refine z_iload_n a1 dX12_cuts_1 rfl rfl ?_
  refine z_iload_n a2 dX12_cuts_2 rfl rfl ?_
  refine zq_VI (N := MX12_isThing) (As := [.int a1, .int a2]) m_X12_215 dX12_cuts_3 rfl rfl (Nat.le_of_ble_eq_true rfl) h (fun x2 w1 h => ?_)
  refine z_if_eq 18 dX12_cuts_6 rfl (fun hc => ?_) (fun hc => ?_)
  · rw [if_pos hc] at h
    refine z_bipush (-2) dX12_cuts_18 rfl ?_
    exact z_ireturn .int dX12_cuts_20 rfl rfl h
  · rw [if_neg hc] at h
    refine z_aload_n p0 dX12_cuts_9 rfl rfl ?_
    refine z_iload_n a1 dX12_cuts_10 rfl rfl ?_
    refine z_iload_n a3 dX12_cuts_11 rfl rfl ?_
    refine zq_VI (N := MX12_isThing) (As := [.int a1, .int a3]) m_X12_215 dX12_cuts_12 rfl rfl (Nat.le_of_ble_eq_true rfl) h (fun x4 w3 h => ?_)
    refine z_if_ne 21 dX12_cuts_15 rfl (fun hc => ?_) (fun hc => ?_)
    · rw [if_neg hc] at h
      refine z_aload_n p0 dX12_cuts_21 rfl rfl ?_
      refine z_iload_n a1 dX12_cuts_22 rfl rfl ?_
      refine z_iload_n a2 dX12_cuts_23 rfl rfl ?_
      refine z_iload_n a3 dX12_cuts_24 rfl rfl ?_
      refine zq_VI (N := MX12_isCover) (As := [.int a1, .int a2, .int a3]) m_X12_236 dX12_cuts_25 rfl rfl (Nat.le_of_ble_eq_true rfl) h (fun x6 w5 h => ?_)
      refine z_if_ne 34 dX12_cuts_28 rfl (fun hc => ?_) (fun hc => ?_)
      · rw [if_neg hc] at h
        refine z_aload_n p0 dX12_cuts_34 rfl rfl ?_
        refine zq_VV (N := MX12_remembers) (As := []) m_X12_113 dX12_cuts_35 rfl rfl (Nat.le_of_ble_eq_true rfl) h (fun w7 h => ?_)
        refine z_aload_n p0 dX12_cuts_38 rfl rfl ?_
        refine z_iload_n a1 dX12_cuts_39 rfl rfl ?_
        refine z_iconst 1 dX12_cuts_40 rfl ?_
        refine z_iload_n a3 dX12_cuts_41 rfl rfl ?_
        refine z_iadd dX12_cuts_42 ?_
        refine z_aload_n p0 dX12_cuts_43 rfl rfl ?_
        refine z_iload_n a1 dX12_cuts_44 rfl rfl ?_
        refine z_iload_n a3 dX12_cuts_45 rfl rfl ?_
        refine zq_VI (N := MX12_under) (As := [.int a1, .int a3]) m_X12_86 dX12_cuts_46 rfl rfl (Nat.le_of_ble_eq_true rfl) h (fun x9 w8 h => ?_)
        refine z_iconst 1 dX12_cuts_49 rfl ?_
        refine z_iload_n a2 dX12_cuts_50 rfl rfl ?_
        refine z_ishl dX12_cuts_51 ?_
        refine z_iconst (-1) dX12_cuts_52 rfl ?_
        refine z_ixor dX12_cuts_53 ?_
        refine z_iand dX12_cuts_54 ?_
        refine zq_VV (N := MX12_lays) (As := [.int a1, .int ((1 : Int32) + a3), .int (x9 &&& (((1 : Int32) <<< (a2 &&& 31)) ^^^ (-1)))]) m_X12_109 dX12_cuts_55 rfl rfl (Nat.le_of_ble_eq_true rfl) h (fun w10 h => ?_)
        refine z_aload_n p0 dX12_cuts_58 rfl rfl ?_
        refine z_aload_n p0 dX12_cuts_59 rfl rfl ?_
        refine z_iload_n a1 dX12_cuts_60 rfl rfl ?_
        refine zq_VI (N := MX12_belowMany) (As := [.int a1]) m_X12_199 dX12_cuts_61 rfl rfl (Nat.le_of_ble_eq_true rfl) h (fun x12 w11 h => ?_)
        refine zq_VI (N := MX12_keeps) (As := [.int x12]) m_X12_106 dX12_cuts_64 rfl rfl (Nat.le_of_ble_eq_true rfl) h (fun x14 w13 h => ?_)
        exact z_ireturn .int dX12_cuts_67 rfl rfl h
      · rw [if_pos hc] at h
        refine z_bipush (-6) dX12_cuts_31 rfl ?_
        exact z_ireturn .int dX12_cuts_33 rfl rfl h
    · rw [if_pos hc] at h
      refine z_bipush (-2) dX12_cuts_18 rfl ?_
      exact z_ireturn .int dX12_cuts_20 rfl rfl h
theorem eX12_cuts {X : zX} {d kc ks : Nat} {w : zW} {Q : Option Value → zW → Prop} (p0 : Nat) (a1 : Int32) (a2 : Int32) (a3 : Int32) (h : zRn X d kc ks MX12_cuts 0 [some (.ref p0), some (.int a1), some (.int a2), some (.int a3)] [] w Q) : zEv X d kc ks MX12_cuts [.ref p0, .int a1, .int a2, .int a3] w Q :=
  zEv.of (by decide) (Nat.le_of_ble_eq_true rfl) (Or.inr (by simp [Value.category])) h
set_option maxRecDepth 100000 in
set_option maxHeartbeats 4000000 in
theorem bX12_flip_0 {X : zX} {d kc ks : Nat} {w : zW} {Q : Option Value → zW → Prop} (p0 : Nat) (a1 : Int32)
    (h : zIs w p0 11 ∧ zCallI X d MX12_isOrder [.ref p0, .int a1] w (fun x2 w1 => if x2 = 0 then (Q (some (.int (-2))) w1) else (zIs w1 p0 11 ∧ zCallV X d MX12_remembers [.ref p0] w1 (fun w3 => zRn X d kc ks MX12_flip 17 [some (.ref p0), some (.int a1), some (.int 0), none] [] w3 Q)))) :
    zRn X d kc ks MX12_flip 0 [some (.ref p0), some (.int a1), none, none] [] w Q := by
  refine z_aload_n p0 dX12_flip_0 rfl rfl ?_
  refine z_iload_n a1 dX12_flip_1 rfl rfl ?_
  refine zq_VI (N := MX12_isOrder) (As := [.int a1]) m_X12_80 dX12_flip_2 rfl rfl (Nat.le_of_ble_eq_true rfl) h (fun x2 w1 h => ?_)
  refine z_if_ne 11 dX12_flip_5 rfl (fun hc => ?_) (fun hc => ?_)
  · rw [if_neg hc] at h
    refine z_aload_n p0 dX12_flip_11 rfl rfl ?_
    refine zq_VV (N := MX12_remembers) (As := []) m_X12_113 dX12_flip_12 rfl rfl (Nat.le_of_ble_eq_true rfl) h (fun w3 h => ?_)
    refine z_iconst 0 dX12_flip_15 rfl ?_
    refine z_istore_n (i := 2) dX12_flip_16 rfl (by decide) rfl ?_
    exact h
  · rw [if_pos hc] at h
    refine z_bipush (-2) dX12_flip_8 rfl ?_
    exact z_ireturn .int dX12_flip_10 rfl rfl h
set_option maxRecDepth 100000 in
set_option maxHeartbeats 4000000 in
theorem bX12_flip_17 {X : zX} {d kc ks : Nat} {w : zW} {Q : Option Value → zW → Prop} (v0 : Nat) (v1 : Int32) (v2 : Int32)
    (h : zIs w v0 11 ∧ zCallI X d MX12_many [.ref v0, .int v1] w (fun x2 w1 => if x2 ≤ v2 then (zRn X d kc ks MX12_flip 46 [some (.ref v0), some (.int v1), some (.int 0), none] [] w1 Q) else (∃ r3, zfR w1 v0 11 25 = some r3 ∧ (zIs w1 v0 11 ∧ zCallI X d MX12_over [.ref v0, .int v1, .int v2] w1 (fun x5 w4 => ∃ w6, zsI w4 r3 v2 x5 = some w6 ∧ (zRn X d kc ks MX12_flip 17 [some (.ref v0), some (.int v1), some (.int (v2 + 1)), none] [] w6 Q)))))) :
    zRn X d kc ks MX12_flip 17 [some (.ref v0), some (.int v1), some (.int v2), none] [] w Q := by
  refine z_iload_n v2 dX12_flip_17 rfl rfl ?_
  refine z_aload_n v0 dX12_flip_18 rfl rfl ?_
  refine z_iload_n v1 dX12_flip_19 rfl rfl ?_
  refine zq_VI (N := MX12_many) (As := [.int v1]) m_X12_76 dX12_flip_20 rfl rfl (Nat.le_of_ble_eq_true rfl) h (fun x2 w1 h => ?_)
  refine z_icmp_ge 44 dX12_flip_23 rfl (fun hc => ?_) (fun hc => ?_)
  · rw [if_pos hc] at h
    refine z_iconst 0 dX12_flip_44 rfl ?_
    refine z_istore_n (i := 2) dX12_flip_45 rfl (by decide) rfl ?_
    exact h
  · rw [if_neg hc] at h
    refine z_aload_n v0 dX12_flip_26 rfl rfl ?_
    obtain ⟨r3, e, h⟩ := h
    refine zq_fR f_X12_53 dX12_flip_27 e ?_
    refine z_iload_n v2 dX12_flip_30 rfl rfl ?_
    refine z_aload_n v0 dX12_flip_31 rfl rfl ?_
    refine z_iload_n v1 dX12_flip_32 rfl rfl ?_
    refine z_iload_n v2 dX12_flip_33 rfl rfl ?_
    refine zq_VI (N := MX12_over) (As := [.int v1, .int v2]) m_X12_97 dX12_flip_34 rfl rfl (Nat.le_of_ble_eq_true rfl) h (fun x5 w4 h => ?_)
    obtain ⟨w6, e, h⟩ := h
    refine zq_sI dX12_flip_37 e ?_
    refine z_iinc (i := 2) v2 (v2 + 1) dX12_flip_38 rfl rfl (by decide) rfl ?_
    refine z_goto 17 dX12_flip_41 rfl ?_
    exact h
set_option maxRecDepth 100000 in
set_option maxHeartbeats 4000000 in
theorem bX12_flip_46 {X : zX} {d kc ks : Nat} {w : zW} {Q : Option Value → zW → Prop} (v0 : Nat) (v1 : Int32) (v2 : Int32)
    (h : zIs w v0 11 ∧ zCallI X d MX12_many [.ref v0, .int v1] w (fun x2 w1 => if x2 ≤ v2 then (zRn X d kc ks MX12_flip 77 [some (.ref v0), some (.int v1), some (.int 0), none] [] w1 Q) else (∃ r3, zfR w1 v0 11 25 = some r3 ∧ (∃ x4, zaI w1 r3 v2 = some x4 ∧ (zIs w1 v0 11 ∧ zCallV X d MX12_lays [.ref v0, .int v1, .int ((1 : Int32) + v2), .int x4] w1 (fun w5 => zRn X d kc ks MX12_flip 46 [some (.ref v0), some (.int v1), some (.int (v2 + 1)), none] [] w5 Q)))))) :
    zRn X d kc ks MX12_flip 46 [some (.ref v0), some (.int v1), some (.int v2), none] [] w Q := by
  refine z_iload_n v2 dX12_flip_46 rfl rfl ?_
  refine z_aload_n v0 dX12_flip_47 rfl rfl ?_
  refine z_iload_n v1 dX12_flip_48 rfl rfl ?_
  refine zq_VI (N := MX12_many) (As := [.int v1]) m_X12_76 dX12_flip_49 rfl rfl (Nat.le_of_ble_eq_true rfl) h (fun x2 w1 h => ?_)
  refine z_icmp_ge 75 dX12_flip_52 rfl (fun hc => ?_) (fun hc => ?_)
  · rw [if_pos hc] at h
    refine z_iconst 0 dX12_flip_75 rfl ?_
    refine z_istore_n (i := 2) dX12_flip_76 rfl (by decide) rfl ?_
    exact h
  · rw [if_neg hc] at h
    refine z_aload_n v0 dX12_flip_55 rfl rfl ?_
    refine z_iload_n v1 dX12_flip_56 rfl rfl ?_
    refine z_iconst 1 dX12_flip_57 rfl ?_
    refine z_iload_n v2 dX12_flip_58 rfl rfl ?_
    refine z_iadd dX12_flip_59 ?_
    refine z_aload_n v0 dX12_flip_60 rfl rfl ?_
    obtain ⟨r3, e, h⟩ := h
    refine zq_fR f_X12_53 dX12_flip_61 e ?_
    refine z_iload_n v2 dX12_flip_64 rfl rfl ?_
    obtain ⟨x4, e, h⟩ := h
    refine zq_aI dX12_flip_65 e ?_
    refine zq_VV (N := MX12_lays) (As := [.int v1, .int ((1 : Int32) + v2), .int x4]) m_X12_109 dX12_flip_66 rfl rfl (Nat.le_of_ble_eq_true rfl) h (fun w5 h => ?_)
    refine z_iinc (i := 2) v2 (v2 + 1) dX12_flip_69 rfl rfl (by decide) rfl ?_
    refine z_goto 46 dX12_flip_72 rfl ?_
    exact h
set_option maxRecDepth 100000 in
set_option maxHeartbeats 4000000 in
theorem bX12_flip_77 {X : zX} {d kc ks : Nat} {w : zW} {Q : Option Value → zW → Prop} (v0 : Nat) (v1 : Int32) (v2 : Int32)
    (h : zIs w v0 11 ∧ zCallI X d MX12_rows [.ref v0, .int v1] w (fun x2 w1 => if x2 ≤ v2 then (zIs w1 v0 11 ∧ zCallI X d MX12_height [.ref v0, .int v1] w1 (fun x4 w3 => zIs w3 v0 11 ∧ zCallI X d MX12_done [.ref v0, .int x4] w3 (fun x6 w5 => Q (some (.int x6)) w5))) else (zRn X d kc ks MX12_flip 88 [some (.ref v0), some (.int v1), some (.int v2), some (.int 0)] [] w1 Q))) :
    zRn X d kc ks MX12_flip 77 [some (.ref v0), some (.int v1), some (.int v2), none] [] w Q := by
  refine z_iload_n v2 dX12_flip_77 rfl rfl ?_
  refine z_aload_n v0 dX12_flip_78 rfl rfl ?_
  refine z_iload_n v1 dX12_flip_79 rfl rfl ?_
  refine zq_VI (N := MX12_rows) (As := [.int v1]) m_X12_83 dX12_flip_80 rfl rfl (Nat.le_of_ble_eq_true rfl) h (fun x2 w1 h => ?_)
  refine z_icmp_ge 167 dX12_flip_83 rfl (fun hc => ?_) (fun hc => ?_)
  · rw [if_pos hc] at h
    refine z_aload_n v0 dX12_flip_167 rfl rfl ?_
    refine z_aload_n v0 dX12_flip_168 rfl rfl ?_
    refine z_iload_n v1 dX12_flip_169 rfl rfl ?_
    refine zq_VI (N := MX12_height) (As := [.int v1]) m_X12_218 dX12_flip_170 rfl rfl (Nat.le_of_ble_eq_true rfl) h (fun x4 w3 h => ?_)
    refine zq_VI (N := MX12_done) (As := [.int x4]) m_X12_202 dX12_flip_173 rfl rfl (Nat.le_of_ble_eq_true rfl) h (fun x6 w5 h => ?_)
    exact z_ireturn .int dX12_flip_176 rfl rfl h
  · rw [if_neg hc] at h
    refine z_iconst 0 dX12_flip_86 rfl ?_
    refine z_istore_n (i := 3) dX12_flip_87 rfl (by decide) rfl ?_
    exact h
set_option maxRecDepth 100000 in
set_option maxHeartbeats 4000000 in
theorem bX12_flip_88 {X : zX} {d kc ks : Nat} {w : zW} {Q : Option Value → zW → Prop} (v0 : Nat) (v1 : Int32) (v2 : Int32) (v3 : Int32)
    (h : zIs w v0 11 ∧ zCallI X d MX12_many [.ref v0, .int v1] w (fun x2 w1 => if x2 ≤ v3 then (zRn X d kc ks MX12_flip 126 [some (.ref v0), some (.int v1), some (.int v2), some (.int 0)] [] w1 Q) else (∃ r3, zfR w1 v0 11 25 = some r3 ∧ (zIs w1 v0 11 ∧ zCallI X d MX12_many [.ref v0, .int v1] w1 (fun x5 w4 => zIs w4 v0 11 ∧ zCallI X d MX12_rowAt [.ref v0, .int v1, .int v2, .int ((x5 - 1) - v3)] w4 (fun x7 w6 => ∃ w8, zsI w6 r3 v3 x7 = some w8 ∧ (zRn X d kc ks MX12_flip 88 [some (.ref v0), some (.int v1), some (.int v2), some (.int (v3 + 1))] [] w8 Q))))))) :
    zRn X d kc ks MX12_flip 88 [some (.ref v0), some (.int v1), some (.int v2), some (.int v3)] [] w Q := by
  refine z_iload_n v3 dX12_flip_88 rfl rfl ?_
  refine z_aload_n v0 dX12_flip_89 rfl rfl ?_
  refine z_iload_n v1 dX12_flip_90 rfl rfl ?_
  refine zq_VI (N := MX12_many) (As := [.int v1]) m_X12_76 dX12_flip_91 rfl rfl (Nat.le_of_ble_eq_true rfl) h (fun x2 w1 h => ?_)
  refine z_icmp_ge 124 dX12_flip_94 rfl (fun hc => ?_) (fun hc => ?_)
  · rw [if_pos hc] at h
    refine z_iconst 0 dX12_flip_124 rfl ?_
    refine z_istore_n (i := 3) dX12_flip_125 rfl (by decide) rfl ?_
    exact h
  · rw [if_neg hc] at h
    refine z_aload_n v0 dX12_flip_97 rfl rfl ?_
    obtain ⟨r3, e, h⟩ := h
    refine zq_fR f_X12_53 dX12_flip_98 e ?_
    refine z_iload_n v3 dX12_flip_101 rfl rfl ?_
    refine z_aload_n v0 dX12_flip_102 rfl rfl ?_
    refine z_iload_n v1 dX12_flip_103 rfl rfl ?_
    refine z_iload_n v2 dX12_flip_104 rfl rfl ?_
    refine z_aload_n v0 dX12_flip_105 rfl rfl ?_
    refine z_iload_n v1 dX12_flip_106 rfl rfl ?_
    refine zq_VI (N := MX12_many) (As := [.int v1]) m_X12_76 dX12_flip_107 rfl rfl (Nat.le_of_ble_eq_true rfl) h (fun x5 w4 h => ?_)
    refine z_iconst 1 dX12_flip_110 rfl ?_
    refine z_isub dX12_flip_111 ?_
    refine z_iload_n v3 dX12_flip_112 rfl rfl ?_
    refine z_isub dX12_flip_113 ?_
    refine zq_VI (N := MX12_rowAt) (As := [.int v1, .int v2, .int ((x5 - 1) - v3)]) m_X12_291 dX12_flip_114 rfl rfl (Nat.le_of_ble_eq_true rfl) h (fun x7 w6 h => ?_)
    obtain ⟨w8, e, h⟩ := h
    refine zq_sI dX12_flip_117 e ?_
    refine z_iinc (i := 3) v3 (v3 + 1) dX12_flip_118 rfl rfl (by decide) rfl ?_
    refine z_goto 88 dX12_flip_121 rfl ?_
    exact h
set_option maxRecDepth 100000 in
set_option maxHeartbeats 4000000 in
theorem bX12_flip_126 {X : zX} {d kc ks : Nat} {w : zW} {Q : Option Value → zW → Prop} (v0 : Nat) (v1 : Int32) (v2 : Int32) (v3 : Int32)
    (h : zIs w v0 11 ∧ zCallI X d MX12_many [.ref v0, .int v1] w (fun x2 w1 => if x2 ≤ v3 then (zRn X d kc ks MX12_flip 77 [some (.ref v0), some (.int v1), some (.int (v2 + 1)), none] [] w1 Q) else (∃ r3, zfR w1 v0 11 25 = some r3 ∧ (∃ x4, zaI w1 r3 v3 = some x4 ∧ (zIs w1 v0 11 ∧ zCallV X d MX12_lays [.ref v0, .int v1, .int (((10 : Int32) + ((8 : Int32) * v2)) + v3), .int x4] w1 (fun w5 => zRn X d kc ks MX12_flip 126 [some (.ref v0), some (.int v1), some (.int v2), some (.int (v3 + 1))] [] w5 Q)))))) :
    zRn X d kc ks MX12_flip 126 [some (.ref v0), some (.int v1), some (.int v2), some (.int v3)] [] w Q := by
  refine z_iload_n v3 dX12_flip_126 rfl rfl ?_
  refine z_aload_n v0 dX12_flip_127 rfl rfl ?_
  refine z_iload_n v1 dX12_flip_128 rfl rfl ?_
  refine zq_VI (N := MX12_many) (As := [.int v1]) m_X12_76 dX12_flip_129 rfl rfl (Nat.le_of_ble_eq_true rfl) h (fun x2 w1 h => ?_)
  refine z_icmp_ge 161 dX12_flip_132 rfl (fun hc => ?_) (fun hc => ?_)
  · rw [if_pos hc] at h
    refine z_iinc (i := 2) v2 (v2 + 1) dX12_flip_161 rfl rfl (by decide) rfl ?_
    refine z_goto 77 dX12_flip_164 rfl ?_
    exact zRn.weak h (zLe_of [true, true, true, false] (And.intro rfl (And.intro rfl (And.intro rfl (And.intro rfl (trivial))))))
  · rw [if_neg hc] at h
    refine z_aload_n v0 dX12_flip_135 rfl rfl ?_
    refine z_iload_n v1 dX12_flip_136 rfl rfl ?_
    refine z_bipush 10 dX12_flip_137 rfl ?_
    refine z_bipush 8 dX12_flip_139 rfl ?_
    refine z_iload_n v2 dX12_flip_141 rfl rfl ?_
    refine z_imul dX12_flip_142 ?_
    refine z_iadd dX12_flip_143 ?_
    refine z_iload_n v3 dX12_flip_144 rfl rfl ?_
    refine z_iadd dX12_flip_145 ?_
    refine z_aload_n v0 dX12_flip_146 rfl rfl ?_
    obtain ⟨r3, e, h⟩ := h
    refine zq_fR f_X12_53 dX12_flip_147 e ?_
    refine z_iload_n v3 dX12_flip_150 rfl rfl ?_
    obtain ⟨x4, e, h⟩ := h
    refine zq_aI dX12_flip_151 e ?_
    refine zq_VV (N := MX12_lays) (As := [.int v1, .int (((10 : Int32) + ((8 : Int32) * v2)) + v3), .int x4]) m_X12_109 dX12_flip_152 rfl rfl (Nat.le_of_ble_eq_true rfl) h (fun w5 h => ?_)
    refine z_iinc (i := 3) v3 (v3 + 1) dX12_flip_155 rfl rfl (by decide) rfl ?_
    refine z_goto 126 dX12_flip_158 rfl ?_
    exact h
theorem eX12_flip {X : zX} {d kc ks : Nat} {w : zW} {Q : Option Value → zW → Prop} (p0 : Nat) (a1 : Int32) (h : zRn X d kc ks MX12_flip 0 [some (.ref p0), some (.int a1), none, none] [] w Q) : zEv X d kc ks MX12_flip [.ref p0, .int a1] w Q :=
  zEv.of (by decide) (Nat.le_of_ble_eq_true rfl) (Or.inr (by simp [Value.category])) h
set_option maxRecDepth 100000 in
set_option maxHeartbeats 4000000 in
theorem bX12_without_0 {X : zX} {d kc ks : Nat} {w : zW} {Q : Option Value → zW → Prop} (p0 : Nat) (a1 : Int32) (a2 : Int32)
    (h : zIs w p0 11 ∧ zCallI X d MX12_isThing [.ref p0, .int a1, .int a2] w (fun x2 w1 => if x2 = 0 then (Q (some (.int (-2))) w1) else (zIs w1 p0 11 ∧ zCallI X d MX12_many [.ref p0, .int a1] w1 (fun x4 w3 => if x4 = 1 then (Q (some (.int (-6))) w3) else (zIs w3 p0 11 ∧ zCallV X d MX12_remembers [.ref p0] w3 (fun w5 => zRn X d kc ks MX12_without 33 [some (.ref p0), some (.int a1), some (.int a2), some (.int x4), some (.int 0), none, none, none] [] w5 Q)))))) :
    zRn X d kc ks MX12_without 0 [some (.ref p0), some (.int a1), some (.int a2), none, none, none, none, none] [] w Q := by
  refine z_aload_n p0 dX12_without_0 rfl rfl ?_
  refine z_iload_n a1 dX12_without_1 rfl rfl ?_
  refine z_iload_n a2 dX12_without_2 rfl rfl ?_
  refine zq_VI (N := MX12_isThing) (As := [.int a1, .int a2]) m_X12_215 dX12_without_3 rfl rfl (Nat.le_of_ble_eq_true rfl) h (fun x2 w1 h => ?_)
  refine z_if_ne 12 dX12_without_6 rfl (fun hc => ?_) (fun hc => ?_)
  · rw [if_neg hc] at h
    refine z_aload_n p0 dX12_without_12 rfl rfl ?_
    refine z_iload_n a1 dX12_without_13 rfl rfl ?_
    refine zq_VI (N := MX12_many) (As := [.int a1]) m_X12_76 dX12_without_14 rfl rfl (Nat.le_of_ble_eq_true rfl) h (fun x4 w3 h => ?_)
    refine z_istore_n (i := 3) dX12_without_17 rfl (by decide) rfl ?_
    refine z_iload_n x4 dX12_without_18 rfl rfl ?_
    refine z_iconst 1 dX12_without_19 rfl ?_
    refine z_icmp_ne 26 dX12_without_20 rfl (fun hc => ?_) (fun hc => ?_)
    · rw [if_neg hc] at h
      refine z_aload_n p0 dX12_without_26 rfl rfl ?_
      refine zq_VV (N := MX12_remembers) (As := []) m_X12_113 dX12_without_27 rfl rfl (Nat.le_of_ble_eq_true rfl) h (fun w5 h => ?_)
      refine z_iconst 0 dX12_without_30 rfl ?_
      refine z_istore (i := 4) dX12_without_31 (by decide) rfl ?_
      exact h
    · rw [if_pos hc] at h
      refine z_bipush (-6) dX12_without_23 rfl ?_
      exact z_ireturn .int dX12_without_25 rfl rfl h
  · rw [if_pos hc] at h
    refine z_bipush (-2) dX12_without_9 rfl ?_
    exact z_ireturn .int dX12_without_11 rfl rfl h
set_option maxRecDepth 100000 in
set_option maxHeartbeats 4000000 in
theorem bX12_without_33 {X : zX} {d kc ks : Nat} {w : zW} {Q : Option Value → zW → Prop} (v0 : Nat) (v1 : Int32) (v2 : Int32) (v3 : Int32) (v4 : Int32)
    (h : if v3 ≤ v4 then (zRn X d kc ks MX12_without 66 [some (.ref v0), some (.int v1), some (.int v2), some (.int v3), some (.int 0), none, none, none] [] w Q) else (∃ r1, zfR w v0 11 25 = some r1 ∧ (zIs w v0 11 ∧ zCallI X d MX12_under [.ref v0, .int v1, .int v4] w (fun x3 w2 => zCallI X d MX12_without1 [.int x3, .int v2] w2 (fun x5 w4 => ∃ w6, zsI w4 r1 v4 x5 = some w6 ∧ (zRn X d kc ks MX12_without 33 [some (.ref v0), some (.int v1), some (.int v2), some (.int v3), some (.int (v4 + 1)), none, none, none] [] w6 Q)))))) :
    zRn X d kc ks MX12_without 33 [some (.ref v0), some (.int v1), some (.int v2), some (.int v3), some (.int v4), none, none, none] [] w Q := by
  refine z_iload v4 dX12_without_33 rfl ?_
  refine z_iload_n v3 dX12_without_35 rfl rfl ?_
  refine z_icmp_ge 63 dX12_without_36 rfl (fun hc => ?_) (fun hc => ?_)
  · rw [if_pos hc] at h
    refine z_iconst 0 dX12_without_63 rfl ?_
    refine z_istore (i := 4) dX12_without_64 (by decide) rfl ?_
    exact h
  · rw [if_neg hc] at h
    refine z_aload_n v0 dX12_without_39 rfl rfl ?_
    obtain ⟨r1, e, h⟩ := h
    refine zq_fR f_X12_53 dX12_without_40 e ?_
    refine z_iload v4 dX12_without_43 rfl ?_
    refine z_aload_n v0 dX12_without_45 rfl rfl ?_
    refine z_iload_n v1 dX12_without_46 rfl rfl ?_
    refine z_iload v4 dX12_without_47 rfl ?_
    refine zq_VI (N := MX12_under) (As := [.int v1, .int v4]) m_X12_86 dX12_without_49 rfl rfl (Nat.le_of_ble_eq_true rfl) h (fun x3 w2 h => ?_)
    refine z_iload_n v2 dX12_without_52 rfl rfl ?_
    refine zq_SI (N := MX12_without1) (As := [.int x3, .int v2]) m_X12_361 dX12_without_53 rfl rfl (Nat.le_of_ble_eq_true rfl) h (fun x5 w4 h => ?_)
    obtain ⟨w6, e, h⟩ := h
    refine zq_sI dX12_without_56 e ?_
    refine z_iinc (i := 4) v4 (v4 + 1) dX12_without_57 rfl rfl (by decide) rfl ?_
    refine z_goto 33 dX12_without_60 rfl ?_
    exact h
set_option maxRecDepth 100000 in
set_option maxHeartbeats 4000000 in
theorem bX12_without_66 {X : zX} {d kc ks : Nat} {w : zW} {Q : Option Value → zW → Prop} (v0 : Nat) (v1 : Int32) (v2 : Int32) (v3 : Int32) (v4 : Int32)
    (h : if v3 ≤ v4 then (zRn X d kc ks MX12_without 122 [some (.ref v0), some (.int v1), some (.int v2), some (.int v3), some (.int 0), none, none, none] [] w Q) else (if v4 = (v3 - 1) then (zRn X d kc ks MX12_without 110 [some (.ref v0), some (.int v1), some (.int v2), some (.int v3), some (.int v4), none, none, none] [.int 0, .int ((1 : Int32) + v4), .int v1, .ref v0] w Q) else (∃ r1, zfR w v0 11 25 = some r1 ∧ (if v2 ≤ v4 then (zRn X d kc ks MX12_without 109 [some (.ref v0), some (.int v1), some (.int v2), some (.int v3), some (.int v4), none, none, none] [.int (v4 + 1), .ref r1, .int ((1 : Int32) + v4), .int v1, .ref v0] w Q) else (zRn X d kc ks MX12_without 109 [some (.ref v0), some (.int v1), some (.int v2), some (.int v3), some (.int v4), none, none, none] [.int v4, .ref r1, .int ((1 : Int32) + v4), .int v1, .ref v0] w Q))))) :
    zRn X d kc ks MX12_without 66 [some (.ref v0), some (.int v1), some (.int v2), some (.int v3), some (.int v4), none, none, none] [] w Q := by
  refine z_iload v4 dX12_without_66 rfl ?_
  refine z_iload_n v3 dX12_without_68 rfl rfl ?_
  refine z_icmp_ge 119 dX12_without_69 rfl (fun hc => ?_) (fun hc => ?_)
  · rw [if_pos hc] at h
    refine z_iconst 0 dX12_without_119 rfl ?_
    refine z_istore (i := 4) dX12_without_120 (by decide) rfl ?_
    exact h
  · rw [if_neg hc] at h
    refine z_aload_n v0 dX12_without_72 rfl rfl ?_
    refine z_iload_n v1 dX12_without_73 rfl rfl ?_
    refine z_iconst 1 dX12_without_74 rfl ?_
    refine z_iload v4 dX12_without_75 rfl ?_
    refine z_iadd dX12_without_77 ?_
    refine z_iload v4 dX12_without_78 rfl ?_
    refine z_iload_n v3 dX12_without_80 rfl rfl ?_
    refine z_iconst 1 dX12_without_81 rfl ?_
    refine z_isub dX12_without_82 ?_
    refine z_icmp_ne 90 dX12_without_83 rfl (fun hc => ?_) (fun hc => ?_)
    · rw [if_neg hc] at h
      refine z_aload_n v0 dX12_without_90 rfl rfl ?_
      obtain ⟨r1, e, h⟩ := h
      refine zq_fR f_X12_53 dX12_without_91 e ?_
      refine z_iload v4 dX12_without_94 rfl ?_
      refine z_iload_n v2 dX12_without_96 rfl rfl ?_
      refine z_icmp_ge 105 dX12_without_97 rfl (fun hc => ?_) (fun hc => ?_)
      · rw [if_pos hc] at h
        refine z_iload v4 dX12_without_105 rfl ?_
        refine z_iconst 1 dX12_without_107 rfl ?_
        refine z_iadd dX12_without_108 ?_
        exact h
      · rw [if_neg hc] at h
        refine z_iload v4 dX12_without_100 rfl ?_
        refine z_goto 109 dX12_without_102 rfl ?_
        exact h
    · rw [if_pos hc] at h
      refine z_iconst 0 dX12_without_86 rfl ?_
      refine z_goto 110 dX12_without_87 rfl ?_
      exact h
set_option maxRecDepth 100000 in
set_option maxHeartbeats 4000000 in
theorem bX12_without_109 {X : zX} {d kc ks : Nat} {w : zW} {Q : Option Value → zW → Prop} (v0 : Nat) (v1 : Int32) (v2 : Int32) (v3 : Int32) (v4 : Int32) (u0 : Int32) (u1 : Nat) (u2 : Int32) (u3 : Int32) (u4 : Nat)
    (h : ∃ x1, zaI w u1 u0 = some x1 ∧ (zRn X d kc ks MX12_without 110 [some (.ref v0), some (.int v1), some (.int v2), some (.int v3), some (.int v4), none, none, none] [.int x1, .int u2, .int u3, .ref u4] w Q)) :
    zRn X d kc ks MX12_without 109 [some (.ref v0), some (.int v1), some (.int v2), some (.int v3), some (.int v4), none, none, none] [.int u0, .ref u1, .int u2, .int u3, .ref u4] w Q := by
  obtain ⟨x1, e, h⟩ := h
  refine zq_aI dX12_without_109 e ?_
  exact h
set_option maxRecDepth 100000 in
set_option maxHeartbeats 4000000 in
theorem bX12_without_110 {X : zX} {d kc ks : Nat} {w : zW} {Q : Option Value → zW → Prop} (v0 : Nat) (v1 : Int32) (v2 : Int32) (v3 : Int32) (v4 : Int32) (u0 : Int32) (u1 : Int32) (u2 : Int32) (u3 : Nat)
    (h : zIs w u3 11 ∧ zCallV X d MX12_lays [.ref u3, .int u2, .int u1, .int u0] w (fun w1 => zRn X d kc ks MX12_without 66 [some (.ref v0), some (.int v1), some (.int v2), some (.int v3), some (.int (v4 + 1)), none, none, none] [] w1 Q)) :
    zRn X d kc ks MX12_without 110 [some (.ref v0), some (.int v1), some (.int v2), some (.int v3), some (.int v4), none, none, none] [.int u0, .int u1, .int u2, .ref u3] w Q := by
  refine zq_VV (N := MX12_lays) (As := [.int u2, .int u1, .int u0]) m_X12_109 dX12_without_110 rfl rfl (Nat.le_of_ble_eq_true rfl) h (fun w1 h => ?_)
  refine z_iinc (i := 4) v4 (v4 + 1) dX12_without_113 rfl rfl (by decide) rfl ?_
  refine z_goto 66 dX12_without_116 rfl ?_
  exact h
set_option maxRecDepth 100000 in
set_option maxHeartbeats 4000000 in
theorem bX12_without_122 {X : zX} {d kc ks : Nat} {w : zW} {Q : Option Value → zW → Prop} (v0 : Nat) (v1 : Int32) (v2 : Int32) (v3 : Int32) (v4 : Int32)
    (h : zIs w v0 11 ∧ zCallI X d MX12_rows [.ref v0, .int v1] w (fun x2 w1 => if x2 ≤ v4 then (zIs w1 v0 11 ∧ zCallV X d MX12_lays [.ref v0, .int v1, .int 0, .int (v3 - 1)] w1 (fun w3 => zIs w3 v0 11 ∧ zCallI X d MX12_keeps [.ref v0, .int (v3 - 1)] w3 (fun x5 w4 => Q (some (.int x5)) w4))) else (zRn X d kc ks MX12_without 138 [some (.ref v0), some (.int v1), some (.int v2), some (.int v3), some (.int v4), some (.int 0), some (.int 0), none] [] w1 Q))) :
    zRn X d kc ks MX12_without 122 [some (.ref v0), some (.int v1), some (.int v2), some (.int v3), some (.int v4), none, none, none] [] w Q := by
  refine z_iload v4 dX12_without_122 rfl ?_
  refine z_aload_n v0 dX12_without_124 rfl rfl ?_
  refine z_iload_n v1 dX12_without_125 rfl rfl ?_
  refine zq_VI (N := MX12_rows) (As := [.int v1]) m_X12_83 dX12_without_126 rfl rfl (Nat.le_of_ble_eq_true rfl) h (fun x2 w1 h => ?_)
  refine z_icmp_ge 248 dX12_without_129 rfl (fun hc => ?_) (fun hc => ?_)
  · rw [if_pos hc] at h
    refine z_aload_n v0 dX12_without_248 rfl rfl ?_
    refine z_iload_n v1 dX12_without_249 rfl rfl ?_
    refine z_iconst 0 dX12_without_250 rfl ?_
    refine z_iload_n v3 dX12_without_251 rfl rfl ?_
    refine z_iconst 1 dX12_without_252 rfl ?_
    refine z_isub dX12_without_253 ?_
    refine zq_VV (N := MX12_lays) (As := [.int v1, .int 0, .int (v3 - 1)]) m_X12_109 dX12_without_254 rfl rfl (Nat.le_of_ble_eq_true rfl) h (fun w3 h => ?_)
    refine z_aload_n v0 dX12_without_257 rfl rfl ?_
    refine z_iload_n v3 dX12_without_258 rfl rfl ?_
    refine z_iconst 1 dX12_without_259 rfl ?_
    refine z_isub dX12_without_260 ?_
    refine zq_VI (N := MX12_keeps) (As := [.int (v3 - 1)]) m_X12_106 dX12_without_261 rfl rfl (Nat.le_of_ble_eq_true rfl) h (fun x5 w4 h => ?_)
    exact z_ireturn .int dX12_without_264 rfl rfl h
  · rw [if_neg hc] at h
    refine z_iconst 0 dX12_without_132 rfl ?_
    refine z_istore (i := 5) dX12_without_133 (by decide) rfl ?_
    refine z_iconst 0 dX12_without_135 rfl ?_
    refine z_istore (i := 6) dX12_without_136 (by decide) rfl ?_
    exact h
set_option maxRecDepth 100000 in
set_option maxHeartbeats 4000000 in
theorem bX12_without_138 {X : zX} {d kc ks : Nat} {w : zW} {Q : Option Value → zW → Prop} (v0 : Nat) (v1 : Int32) (v2 : Int32) (v3 : Int32) (v4 : Int32) (v5 : Int32) (v6 : Int32)
    (h : if v3 ≤ v6 then (zRn X d kc ks MX12_without 195 [some (.ref v0), some (.int v1), some (.int v2), some (.int v3), some (.int v4), none, some (.int 0), none] [] w Q) else (zIs w v0 11 ∧ zCallI X d MX12_rowAt [.ref v0, .int v1, .int v4, .int v6] w (fun x2 w1 => if x2 = v2 then (zRn X d kc ks MX12_without 186 [some (.ref v0), some (.int v1), some (.int v2), some (.int v3), some (.int v4), some (.int v5), some (.int v6), none] [] w1 Q) else (∃ r3, zfR w1 v0 11 25 = some r3 ∧ (if v2 ≤ x2 then (zRn X d kc ks MX12_without 182 [some (.ref v0), some (.int v1), some (.int v2), some (.int v3), some (.int v4), some (.int v5), some (.int v6), none] [.int (x2 - 1), .int v5, .ref r3] w1 Q) else (zRn X d kc ks MX12_without 182 [some (.ref v0), some (.int v1), some (.int v2), some (.int v3), some (.int v4), some (.int v5), some (.int v6), none] [.int x2, .int v5, .ref r3] w1 Q)))))) :
    zRn X d kc ks MX12_without 138 [some (.ref v0), some (.int v1), some (.int v2), some (.int v3), some (.int v4), some (.int v5), some (.int v6), none] [] w Q := by
  refine z_iload v6 dX12_without_138 rfl ?_
  refine z_iload_n v3 dX12_without_140 rfl rfl ?_
  refine z_icmp_ge 192 dX12_without_141 rfl (fun hc => ?_) (fun hc => ?_)
  · rw [if_pos hc] at h
    refine z_iconst 0 dX12_without_192 rfl ?_
    refine z_istore (i := 6) dX12_without_193 (by decide) rfl ?_
    exact zRn.weak h (zLe_of [true, true, true, true, true, false, true, true] (And.intro rfl (And.intro rfl (And.intro rfl (And.intro rfl (And.intro rfl (And.intro rfl (And.intro rfl (And.intro rfl (trivial))))))))))
  · rw [if_neg hc] at h
    refine z_aload_n v0 dX12_without_144 rfl rfl ?_
    refine z_iload_n v1 dX12_without_145 rfl rfl ?_
    refine z_iload v4 dX12_without_146 rfl ?_
    refine z_iload v6 dX12_without_148 rfl ?_
    refine zq_VI (N := MX12_rowAt) (As := [.int v1, .int v4, .int v6]) m_X12_291 dX12_without_150 rfl rfl (Nat.le_of_ble_eq_true rfl) h (fun x2 w1 h => ?_)
    refine z_istore (i := 7) dX12_without_153 (by decide) rfl ?_
    refine z_iload x2 dX12_without_155 rfl ?_
    refine z_iload_n v2 dX12_without_157 rfl rfl ?_
    refine z_icmp_eq 186 dX12_without_158 rfl (fun hc => ?_) (fun hc => ?_)
    · rw [if_pos hc] at h
      exact zRn.weak h (zLe_of [true, true, true, true, true, true, true, false] (And.intro rfl (And.intro rfl (And.intro rfl (And.intro rfl (And.intro rfl (And.intro rfl (And.intro rfl (And.intro rfl (trivial))))))))))
    · rw [if_neg hc] at h
      refine z_aload_n v0 dX12_without_161 rfl rfl ?_
      obtain ⟨r3, e, h⟩ := h
      refine zq_fR f_X12_53 dX12_without_162 e ?_
      refine z_iload v5 dX12_without_165 rfl ?_
      refine z_iload x2 dX12_without_167 rfl ?_
      refine z_iload_n v2 dX12_without_169 rfl rfl ?_
      refine z_icmp_ge 178 dX12_without_170 rfl (fun hc => ?_) (fun hc => ?_)
      · rw [if_pos hc] at h
        refine z_iload x2 dX12_without_178 rfl ?_
        refine z_iconst 1 dX12_without_180 rfl ?_
        refine z_isub dX12_without_181 ?_
        exact zRn.weak h (zLe_of [true, true, true, true, true, true, true, false] (And.intro rfl (And.intro rfl (And.intro rfl (And.intro rfl (And.intro rfl (And.intro rfl (And.intro rfl (And.intro rfl (trivial))))))))))
      · rw [if_neg hc] at h
        refine z_iload x2 dX12_without_173 rfl ?_
        refine z_goto 182 dX12_without_175 rfl ?_
        exact zRn.weak h (zLe_of [true, true, true, true, true, true, true, false] (And.intro rfl (And.intro rfl (And.intro rfl (And.intro rfl (And.intro rfl (And.intro rfl (And.intro rfl (And.intro rfl (trivial))))))))))
set_option maxRecDepth 100000 in
set_option maxHeartbeats 4000000 in
theorem bX12_without_182 {X : zX} {d kc ks : Nat} {w : zW} {Q : Option Value → zW → Prop} (v0 : Nat) (v1 : Int32) (v2 : Int32) (v3 : Int32) (v4 : Int32) (v5 : Int32) (v6 : Int32) (u0 : Int32) (u1 : Int32) (u2 : Nat)
    (h : ∃ w1, zsI w u2 u1 u0 = some w1 ∧ (zRn X d kc ks MX12_without 186 [some (.ref v0), some (.int v1), some (.int v2), some (.int v3), some (.int v4), some (.int (v5 + 1)), some (.int v6), none] [] w1 Q)) :
    zRn X d kc ks MX12_without 182 [some (.ref v0), some (.int v1), some (.int v2), some (.int v3), some (.int v4), some (.int v5), some (.int v6), none] [.int u0, .int u1, .ref u2] w Q := by
  obtain ⟨w1, e, h⟩ := h
  refine zq_sI dX12_without_182 e ?_
  refine z_iinc (i := 5) v5 (v5 + 1) dX12_without_183 rfl rfl (by decide) rfl ?_
  exact h
set_option maxRecDepth 100000 in
set_option maxHeartbeats 4000000 in
theorem bX12_without_186 {X : zX} {d kc ks : Nat} {w : zW} {Q : Option Value → zW → Prop} (v0 : Nat) (v1 : Int32) (v2 : Int32) (v3 : Int32) (v4 : Int32) (v5 : Int32) (v6 : Int32)
    (h : zRn X d kc ks MX12_without 138 [some (.ref v0), some (.int v1), some (.int v2), some (.int v3), some (.int v4), some (.int v5), some (.int (v6 + 1)), none] [] w Q) :
    zRn X d kc ks MX12_without 186 [some (.ref v0), some (.int v1), some (.int v2), some (.int v3), some (.int v4), some (.int v5), some (.int v6), none] [] w Q := by
  refine z_iinc (i := 6) v6 (v6 + 1) dX12_without_186 rfl rfl (by decide) rfl ?_
  refine z_goto 138 dX12_without_189 rfl ?_
  exact h
set_option maxRecDepth 100000 in
set_option maxHeartbeats 4000000 in
theorem bX12_without_195 {X : zX} {d kc ks : Nat} {w : zW} {Q : Option Value → zW → Prop} (v0 : Nat) (v1 : Int32) (v2 : Int32) (v3 : Int32) (v4 : Int32) (v6 : Int32)
    (h : if v3 ≤ v6 then (zRn X d kc ks MX12_without 122 [some (.ref v0), some (.int v1), some (.int v2), some (.int v3), some (.int (v4 + 1)), none, none, none] [] w Q) else (if (v3 - 1) ≤ v6 then (zRn X d kc ks MX12_without 233 [some (.ref v0), some (.int v1), some (.int v2), some (.int v3), some (.int v4), none, some (.int v6), none] [.int 0, .int (((10 : Int32) + ((8 : Int32) * v4)) + v6), .int v1, .ref v0] w Q) else (∃ r1, zfR w v0 11 25 = some r1 ∧ (∃ x2, zaI w r1 v6 = some x2 ∧ (zRn X d kc ks MX12_without 233 [some (.ref v0), some (.int v1), some (.int v2), some (.int v3), some (.int v4), none, some (.int v6), none] [.int x2, .int (((10 : Int32) + ((8 : Int32) * v4)) + v6), .int v1, .ref v0] w Q))))) :
    zRn X d kc ks MX12_without 195 [some (.ref v0), some (.int v1), some (.int v2), some (.int v3), some (.int v4), none, some (.int v6), none] [] w Q := by
  refine z_iload v6 dX12_without_195 rfl ?_
  refine z_iload_n v3 dX12_without_197 rfl rfl ?_
  refine z_icmp_ge 242 dX12_without_198 rfl (fun hc => ?_) (fun hc => ?_)
  · rw [if_pos hc] at h
    refine z_iinc (i := 4) v4 (v4 + 1) dX12_without_242 rfl rfl (by decide) rfl ?_
    refine z_goto 122 dX12_without_245 rfl ?_
    exact zRn.weak h (zLe_of [true, true, true, true, true, true, false, true] (And.intro rfl (And.intro rfl (And.intro rfl (And.intro rfl (And.intro rfl (And.intro rfl (And.intro rfl (And.intro rfl (trivial))))))))))
  · rw [if_neg hc] at h
    refine z_aload_n v0 dX12_without_201 rfl rfl ?_
    refine z_iload_n v1 dX12_without_202 rfl rfl ?_
    refine z_bipush 10 dX12_without_203 rfl ?_
    refine z_bipush 8 dX12_without_205 rfl ?_
    refine z_iload v4 dX12_without_207 rfl ?_
    refine z_imul dX12_without_209 ?_
    refine z_iadd dX12_without_210 ?_
    refine z_iload v6 dX12_without_211 rfl ?_
    refine z_iadd dX12_without_213 ?_
    refine z_iload v6 dX12_without_214 rfl ?_
    refine z_iload_n v3 dX12_without_216 rfl rfl ?_
    refine z_iconst 1 dX12_without_217 rfl ?_
    refine z_isub dX12_without_218 ?_
    refine z_icmp_ge 232 dX12_without_219 rfl (fun hc => ?_) (fun hc => ?_)
    · rw [if_pos hc] at h
      refine z_iconst 0 dX12_without_232 rfl ?_
      exact h
    · rw [if_neg hc] at h
      refine z_aload_n v0 dX12_without_222 rfl rfl ?_
      obtain ⟨r1, e, h⟩ := h
      refine zq_fR f_X12_53 dX12_without_223 e ?_
      refine z_iload v6 dX12_without_226 rfl ?_
      obtain ⟨x2, e, h⟩ := h
      refine zq_aI dX12_without_228 e ?_
      refine z_goto 233 dX12_without_229 rfl ?_
      exact h
set_option maxRecDepth 100000 in
set_option maxHeartbeats 4000000 in
theorem bX12_without_233 {X : zX} {d kc ks : Nat} {w : zW} {Q : Option Value → zW → Prop} (v0 : Nat) (v1 : Int32) (v2 : Int32) (v3 : Int32) (v4 : Int32) (v6 : Int32) (u0 : Int32) (u1 : Int32) (u2 : Int32) (u3 : Nat)
    (h : zIs w u3 11 ∧ zCallV X d MX12_lays [.ref u3, .int u2, .int u1, .int u0] w (fun w1 => zRn X d kc ks MX12_without 195 [some (.ref v0), some (.int v1), some (.int v2), some (.int v3), some (.int v4), none, some (.int (v6 + 1)), none] [] w1 Q)) :
    zRn X d kc ks MX12_without 233 [some (.ref v0), some (.int v1), some (.int v2), some (.int v3), some (.int v4), none, some (.int v6), none] [.int u0, .int u1, .int u2, .ref u3] w Q := by
  refine zq_VV (N := MX12_lays) (As := [.int u2, .int u1, .int u0]) m_X12_109 dX12_without_233 rfl rfl (Nat.le_of_ble_eq_true rfl) h (fun w1 h => ?_)
  refine z_iinc (i := 6) v6 (v6 + 1) dX12_without_236 rfl rfl (by decide) rfl ?_
  refine z_goto 195 dX12_without_239 rfl ?_
  exact h
theorem eX12_without {X : zX} {d kc ks : Nat} {w : zW} {Q : Option Value → zW → Prop} (p0 : Nat) (a1 : Int32) (a2 : Int32) (h : zRn X d kc ks MX12_without 0 [some (.ref p0), some (.int a1), some (.int a2), none, none, none, none, none] [] w Q) : zEv X d kc ks MX12_without [.ref p0, .int a1, .int a2] w Q :=
  zEv.of (by decide) (Nat.le_of_ble_eq_true rfl) (Or.inr (by simp [Value.category])) h
set_option maxRecDepth 100000 in
set_option maxHeartbeats 4000000 in
theorem bX12_without1_0 {X : zX} {d kc ks : Nat} {w : zW} {Q : Option Value → zW → Prop} (a0 : Int32) (a1 : Int32)
    (h : Q (some (.int ((a0 &&& (((1 : Int32) <<< (a1 &&& 31)) - 1)) ||| ((a0 >>> ((a1 + 1) &&& 31)) <<< (a1 &&& 31))))) w) :
    zRn X d kc ks MX12_without1 0 [some (.int a0), some (.int a1), none] [] w Q := by
  refine z_iload_n a0 dX12_without1_0 rfl rfl ?_
  refine z_iconst 1 dX12_without1_1 rfl ?_
  refine z_iload_n a1 dX12_without1_2 rfl rfl ?_
  refine z_ishl dX12_without1_3 ?_
  refine z_iconst 1 dX12_without1_4 rfl ?_
  refine z_isub dX12_without1_5 ?_
  refine z_iand dX12_without1_6 ?_
  refine z_istore_n (i := 2) dX12_without1_7 rfl (by decide) rfl ?_
  refine z_iload_n (a0 &&& (((1 : Int32) <<< (a1 &&& 31)) - 1)) dX12_without1_8 rfl rfl ?_
  refine z_iload_n a0 dX12_without1_9 rfl rfl ?_
  refine z_iload_n a1 dX12_without1_10 rfl rfl ?_
  refine z_iconst 1 dX12_without1_11 rfl ?_
  refine z_iadd dX12_without1_12 ?_
  refine z_ishr dX12_without1_13 ?_
  refine z_iload_n a1 dX12_without1_14 rfl rfl ?_
  refine z_ishl dX12_without1_15 ?_
  refine z_ior dX12_without1_16 ?_
  exact z_ireturn .int dX12_without1_17 rfl rfl h
theorem eX12_without1 {X : zX} {d kc ks : Nat} {w : zW} {Q : Option Value → zW → Prop} (a0 : Int32) (a1 : Int32) (h : zRn X d kc ks MX12_without1 0 [some (.int a0), some (.int a1), none] [] w Q) : zEv X d kc ks MX12_without1 [.int a0, .int a1] w Q :=
  zEv.of (by decide) (Nat.le_of_ble_eq_true rfl) (Or.inr (by simp [Value.category])) h
set_option maxRecDepth 100000 in
set_option maxHeartbeats 4000000 in
theorem bX12_joins_0 {X : zX} {d kc ks : Nat} {w : zW} {Q : Option Value → zW → Prop} (p0 : Nat) (a1 : Int32) (a2 : Int32) (a3 : Int32) (a4 : Int32)
    (h : zIs w p0 11 ∧ zCallI X d MX12_isOrder [.ref p0, .int a1] w (fun x2 w1 => if x2 = 0 then (Q (some (.int (-2))) w1) else (zIs w1 p0 11 ∧ zCallI X d MX12_isOrder [.ref p0, .int a2] w1 (fun x4 w3 => if x4 = 0 then (Q (some (.int (-2))) w3) else (zCallI X d MX12_in [.long ((a3 : Int32).toInt64), .long 0, .long 1] w3 (fun x6 w5 => if x6 = 0 then (Q (some (.int (-2))) w5) else (zCallI X d MX12_isSlot [.int a4] w5 (fun x8 w7 => if x8 = 0 then (Q (some (.int (-2))) w7) else (zIs w7 p0 11 ∧ zCallI X d MX12_many [.ref p0, .int a1] w7 (fun x10 w9 => zIs w9 p0 11 ∧ zCallI X d MX12_many [.ref p0, .int a2] w9 (fun x12 w11 => if (x10 + x12) ≤ 8 then (zIs w11 p0 11 ∧ zCallV X d MX12_remembers [.ref p0] w11 (fun w13 => zRn X d kc ks MX12_joins 71 [some (.ref p0), some (.int a1), some (.int a2), some (.int a3), some (.int a4), some (.int x10), some (.int x12), some (.int 0)] [] w13 Q)) else (Q (some (.int (-5))) w11)))))))))))) :
    zRn X d kc ks MX12_joins 0 [some (.ref p0), some (.int a1), some (.int a2), some (.int a3), some (.int a4), none, none, none] [] w Q := by
  refine z_aload_n p0 dX12_joins_0 rfl rfl ?_
  refine z_iload_n a1 dX12_joins_1 rfl rfl ?_
  refine zq_VI (N := MX12_isOrder) (As := [.int a1]) m_X12_80 dX12_joins_2 rfl rfl (Nat.le_of_ble_eq_true rfl) h (fun x2 w1 h => ?_)
  refine z_if_eq 34 dX12_joins_5 rfl (fun hc => ?_) (fun hc => ?_)
  · rw [if_pos hc] at h
    refine z_bipush (-2) dX12_joins_34 rfl ?_
    exact z_ireturn .int dX12_joins_36 rfl rfl h
  · rw [if_neg hc] at h
    refine z_aload_n p0 dX12_joins_8 rfl rfl ?_
    refine z_iload_n a2 dX12_joins_9 rfl rfl ?_
    refine zq_VI (N := MX12_isOrder) (As := [.int a2]) m_X12_80 dX12_joins_10 rfl rfl (Nat.le_of_ble_eq_true rfl) h (fun x4 w3 h => ?_)
    refine z_if_eq 34 dX12_joins_13 rfl (fun hc => ?_) (fun hc => ?_)
    · rw [if_pos hc] at h
      refine z_bipush (-2) dX12_joins_34 rfl ?_
      exact z_ireturn .int dX12_joins_36 rfl rfl h
    · rw [if_neg hc] at h
      refine z_iload_n a3 dX12_joins_16 rfl rfl ?_
      refine z_i2l dX12_joins_17 ?_
      refine z_lconst 0 dX12_joins_18 rfl ?_
      refine z_lconst 1 dX12_joins_19 rfl ?_
      refine zq_SI (N := MX12_in) (As := [.long ((a3 : Int32).toInt64), .long 0, .long 1]) m_X12_64 dX12_joins_20 rfl rfl (Nat.le_of_ble_eq_true rfl) h (fun x6 w5 h => ?_)
      refine z_if_eq 34 dX12_joins_23 rfl (fun hc => ?_) (fun hc => ?_)
      · rw [if_pos hc] at h
        refine z_bipush (-2) dX12_joins_34 rfl ?_
        exact z_ireturn .int dX12_joins_36 rfl rfl h
      · rw [if_neg hc] at h
        refine z_iload a4 dX12_joins_26 rfl ?_
        refine zq_SI (N := MX12_isSlot) (As := [.int a4]) m_X12_72 dX12_joins_28 rfl rfl (Nat.le_of_ble_eq_true rfl) h (fun x8 w7 h => ?_)
        refine z_if_ne 37 dX12_joins_31 rfl (fun hc => ?_) (fun hc => ?_)
        · rw [if_neg hc] at h
          refine z_aload_n p0 dX12_joins_37 rfl rfl ?_
          refine z_iload_n a1 dX12_joins_38 rfl rfl ?_
          refine zq_VI (N := MX12_many) (As := [.int a1]) m_X12_76 dX12_joins_39 rfl rfl (Nat.le_of_ble_eq_true rfl) h (fun x10 w9 h => ?_)
          refine z_istore (i := 5) dX12_joins_42 (by decide) rfl ?_
          refine z_aload_n p0 dX12_joins_44 rfl rfl ?_
          refine z_iload_n a2 dX12_joins_45 rfl rfl ?_
          refine zq_VI (N := MX12_many) (As := [.int a2]) m_X12_76 dX12_joins_46 rfl rfl (Nat.le_of_ble_eq_true rfl) h (fun x12 w11 h => ?_)
          refine z_istore (i := 6) dX12_joins_49 (by decide) rfl ?_
          refine z_iload x10 dX12_joins_51 rfl ?_
          refine z_iload x12 dX12_joins_53 rfl ?_
          refine z_iadd dX12_joins_55 ?_
          refine z_bipush 8 dX12_joins_56 rfl ?_
          refine z_icmp_le 64 dX12_joins_58 rfl (fun hc => ?_) (fun hc => ?_)
          · rw [if_pos hc] at h
            refine z_aload_n p0 dX12_joins_64 rfl rfl ?_
            refine zq_VV (N := MX12_remembers) (As := []) m_X12_113 dX12_joins_65 rfl rfl (Nat.le_of_ble_eq_true rfl) h (fun w13 h => ?_)
            refine z_iconst 0 dX12_joins_68 rfl ?_
            refine z_istore (i := 7) dX12_joins_69 (by decide) rfl ?_
            exact h
          · rw [if_neg hc] at h
            refine z_bipush (-5) dX12_joins_61 rfl ?_
            exact z_ireturn .int dX12_joins_63 rfl rfl h
        · rw [if_pos hc] at h
          refine z_bipush (-2) dX12_joins_34 rfl ?_
          exact z_ireturn .int dX12_joins_36 rfl rfl h
set_option maxRecDepth 100000 in
set_option maxHeartbeats 4000000 in
theorem bX12_joins_71 {X : zX} {d kc ks : Nat} {w : zW} {Q : Option Value → zW → Prop} (v0 : Nat) (v1 : Int32) (v2 : Int32) (v3 : Int32) (v4 : Int32) (v5 : Int32) (v6 : Int32) (v7 : Int32)
    (h : if (v5 + v6) ≤ v7 then (zIs w v0 11 ∧ zCallV X d MX12_empties [.ref v0, .int v4] w (fun w1 => zIs w1 v0 11 ∧ zCallV X d MX12_lays [.ref v0, .int v4, .int 0, .int (v5 + v6)] w1 (fun w2 => zRn X d kc ks MX12_joins 161 [some (.ref v0), none, none, none, some (.int v4), some (.int v5), some (.int v6), some (.int 0)] [] w2 Q))) else (∃ r3, zfR w v0 11 25 = some r3 ∧ (if v5 ≤ v7 then (zIs w v0 11 ∧ zCallI X d MX12_under [.ref v0, .int v2, .int (v7 - v5)] w (fun x5 w4 => if v3 = 1 then (zRn X d kc ks MX12_joins 132 [some (.ref v0), some (.int v1), some (.int v2), some (.int v3), some (.int v4), some (.int v5), some (.int v6), some (.int v7)] [.int (((1 : Int32) <<< (v5 &&& 31)) - 1), .int (x5 <<< (v5 &&& 31)), .int v7, .ref r3] w4 Q) else (zRn X d kc ks MX12_joins 132 [some (.ref v0), some (.int v1), some (.int v2), some (.int v3), some (.int v4), some (.int v5), some (.int v6), some (.int v7)] [.int 0, .int (x5 <<< (v5 &&& 31)), .int v7, .ref r3] w4 Q))) else (zIs w v0 11 ∧ zCallI X d MX12_under [.ref v0, .int v1, .int v7] w (fun x7 w6 => zRn X d kc ks MX12_joins 133 [some (.ref v0), some (.int v1), some (.int v2), some (.int v3), some (.int v4), some (.int v5), some (.int v6), some (.int v7)] [.int x7, .int v7, .ref r3] w6 Q))))) :
    zRn X d kc ks MX12_joins 71 [some (.ref v0), some (.int v1), some (.int v2), some (.int v3), some (.int v4), some (.int v5), some (.int v6), some (.int v7)] [] w Q := by
  refine z_iload v7 dX12_joins_71 rfl ?_
  refine z_iload v5 dX12_joins_73 rfl ?_
  refine z_iload v6 dX12_joins_75 rfl ?_
  refine z_iadd dX12_joins_77 ?_
  refine z_icmp_ge 140 dX12_joins_78 rfl (fun hc => ?_) (fun hc => ?_)
  · rw [if_pos hc] at h
    refine z_aload_n v0 dX12_joins_140 rfl rfl ?_
    refine z_iload v4 dX12_joins_141 rfl ?_
    refine zq_VV (N := MX12_empties) (As := [.int v4]) m_X12_116 dX12_joins_143 rfl rfl (Nat.le_of_ble_eq_true rfl) h (fun w1 h => ?_)
    refine z_aload_n v0 dX12_joins_146 rfl rfl ?_
    refine z_iload v4 dX12_joins_147 rfl ?_
    refine z_iconst 0 dX12_joins_149 rfl ?_
    refine z_iload v5 dX12_joins_150 rfl ?_
    refine z_iload v6 dX12_joins_152 rfl ?_
    refine z_iadd dX12_joins_154 ?_
    refine zq_VV (N := MX12_lays) (As := [.int v4, .int 0, .int (v5 + v6)]) m_X12_109 dX12_joins_155 rfl rfl (Nat.le_of_ble_eq_true rfl) h (fun w2 h => ?_)
    refine z_iconst 0 dX12_joins_158 rfl ?_
    refine z_istore (i := 7) dX12_joins_159 (by decide) rfl ?_
    exact zRn.weak h (zLe_of [true, false, false, false, true, true, true, true] (And.intro rfl (And.intro rfl (And.intro rfl (And.intro rfl (And.intro rfl (And.intro rfl (And.intro rfl (And.intro rfl (trivial))))))))))
  · rw [if_neg hc] at h
    refine z_aload_n v0 dX12_joins_81 rfl rfl ?_
    obtain ⟨r3, e, h⟩ := h
    refine zq_fR f_X12_53 dX12_joins_82 e ?_
    refine z_iload v7 dX12_joins_85 rfl ?_
    refine z_iload v7 dX12_joins_87 rfl ?_
    refine z_iload v5 dX12_joins_89 rfl ?_
    refine z_icmp_ge 104 dX12_joins_91 rfl (fun hc => ?_) (fun hc => ?_)
    · rw [if_pos hc] at h
      refine z_aload_n v0 dX12_joins_104 rfl rfl ?_
      refine z_iload_n v2 dX12_joins_105 rfl rfl ?_
      refine z_iload v7 dX12_joins_106 rfl ?_
      refine z_iload v5 dX12_joins_108 rfl ?_
      refine z_isub dX12_joins_110 ?_
      refine zq_VI (N := MX12_under) (As := [.int v2, .int (v7 - v5)]) m_X12_86 dX12_joins_111 rfl rfl (Nat.le_of_ble_eq_true rfl) h (fun x5 w4 h => ?_)
      refine z_iload v5 dX12_joins_114 rfl ?_
      refine z_ishl dX12_joins_116 ?_
      refine z_iload_n v3 dX12_joins_117 rfl rfl ?_
      refine z_iconst 1 dX12_joins_118 rfl ?_
      refine z_icmp_ne 131 dX12_joins_119 rfl (fun hc => ?_) (fun hc => ?_)
      · rw [if_neg hc] at h
        refine z_iconst 0 dX12_joins_131 rfl ?_
        exact h
      · rw [if_pos hc] at h
        refine z_iconst 1 dX12_joins_122 rfl ?_
        refine z_iload v5 dX12_joins_123 rfl ?_
        refine z_ishl dX12_joins_125 ?_
        refine z_iconst 1 dX12_joins_126 rfl ?_
        refine z_isub dX12_joins_127 ?_
        refine z_goto 132 dX12_joins_128 rfl ?_
        exact h
    · rw [if_neg hc] at h
      refine z_aload_n v0 dX12_joins_94 rfl rfl ?_
      refine z_iload_n v1 dX12_joins_95 rfl rfl ?_
      refine z_iload v7 dX12_joins_96 rfl ?_
      refine zq_VI (N := MX12_under) (As := [.int v1, .int v7]) m_X12_86 dX12_joins_98 rfl rfl (Nat.le_of_ble_eq_true rfl) h (fun x7 w6 h => ?_)
      refine z_goto 133 dX12_joins_101 rfl ?_
      exact h
set_option maxRecDepth 100000 in
set_option maxHeartbeats 4000000 in
theorem bX12_joins_132 {X : zX} {d kc ks : Nat} {w : zW} {Q : Option Value → zW → Prop} (v0 : Nat) (v1 : Int32) (v2 : Int32) (v3 : Int32) (v4 : Int32) (v5 : Int32) (v6 : Int32) (v7 : Int32) (u0 : Int32) (u1 : Int32) (u2 : Int32) (u3 : Nat)
    (h : zRn X d kc ks MX12_joins 133 [some (.ref v0), some (.int v1), some (.int v2), some (.int v3), some (.int v4), some (.int v5), some (.int v6), some (.int v7)] [.int (u1 ||| u0), .int u2, .ref u3] w Q) :
    zRn X d kc ks MX12_joins 132 [some (.ref v0), some (.int v1), some (.int v2), some (.int v3), some (.int v4), some (.int v5), some (.int v6), some (.int v7)] [.int u0, .int u1, .int u2, .ref u3] w Q := by
  refine z_ior dX12_joins_132 ?_
  exact h
set_option maxRecDepth 100000 in
set_option maxHeartbeats 4000000 in
theorem bX12_joins_133 {X : zX} {d kc ks : Nat} {w : zW} {Q : Option Value → zW → Prop} (v0 : Nat) (v1 : Int32) (v2 : Int32) (v3 : Int32) (v4 : Int32) (v5 : Int32) (v6 : Int32) (v7 : Int32) (u0 : Int32) (u1 : Int32) (u2 : Nat)
    (h : ∃ w1, zsI w u2 u1 u0 = some w1 ∧ (zRn X d kc ks MX12_joins 71 [some (.ref v0), some (.int v1), some (.int v2), some (.int v3), some (.int v4), some (.int v5), some (.int v6), some (.int (v7 + 1))] [] w1 Q)) :
    zRn X d kc ks MX12_joins 133 [some (.ref v0), some (.int v1), some (.int v2), some (.int v3), some (.int v4), some (.int v5), some (.int v6), some (.int v7)] [.int u0, .int u1, .ref u2] w Q := by
  obtain ⟨w1, e, h⟩ := h
  refine zq_sI dX12_joins_133 e ?_
  refine z_iinc (i := 7) v7 (v7 + 1) dX12_joins_134 rfl rfl (by decide) rfl ?_
  refine z_goto 71 dX12_joins_137 rfl ?_
  exact h
set_option maxRecDepth 100000 in
set_option maxHeartbeats 4000000 in
theorem bX12_joins_161 {X : zX} {d kc ks : Nat} {w : zW} {Q : Option Value → zW → Prop} (v0 : Nat) (v4 : Int32) (v5 : Int32) (v6 : Int32) (v7 : Int32)
    (h : if (v5 + v6) ≤ v7 then (zIs w v0 11 ∧ zCallI X d MX12_done [.ref v0, .int (v5 + v6)] w (fun x2 w1 => Q (some (.int x2)) w1)) else (∃ r3, zfR w v0 11 25 = some r3 ∧ (∃ x4, zaI w r3 v7 = some x4 ∧ (zIs w v0 11 ∧ zCallV X d MX12_lays [.ref v0, .int v4, .int ((1 : Int32) + v7), .int x4] w (fun w5 => zRn X d kc ks MX12_joins 161 [some (.ref v0), none, none, none, some (.int v4), some (.int v5), some (.int v6), some (.int (v7 + 1))] [] w5 Q))))) :
    zRn X d kc ks MX12_joins 161 [some (.ref v0), none, none, none, some (.int v4), some (.int v5), some (.int v6), some (.int v7)] [] w Q := by
  refine z_iload v7 dX12_joins_161 rfl ?_
  refine z_iload v5 dX12_joins_163 rfl ?_
  refine z_iload v6 dX12_joins_165 rfl ?_
  refine z_iadd dX12_joins_167 ?_
  refine z_icmp_ge 194 dX12_joins_168 rfl (fun hc => ?_) (fun hc => ?_)
  · rw [if_pos hc] at h
    refine z_aload_n v0 dX12_joins_194 rfl rfl ?_
    refine z_iload v5 dX12_joins_195 rfl ?_
    refine z_iload v6 dX12_joins_197 rfl ?_
    refine z_iadd dX12_joins_199 ?_
    refine zq_VI (N := MX12_done) (As := [.int (v5 + v6)]) m_X12_202 dX12_joins_200 rfl rfl (Nat.le_of_ble_eq_true rfl) h (fun x2 w1 h => ?_)
    exact z_ireturn .int dX12_joins_203 rfl rfl h
  · rw [if_neg hc] at h
    refine z_aload_n v0 dX12_joins_171 rfl rfl ?_
    refine z_iload v4 dX12_joins_172 rfl ?_
    refine z_iconst 1 dX12_joins_174 rfl ?_
    refine z_iload v7 dX12_joins_175 rfl ?_
    refine z_iadd dX12_joins_177 ?_
    refine z_aload_n v0 dX12_joins_178 rfl rfl ?_
    obtain ⟨r3, e, h⟩ := h
    refine zq_fR f_X12_53 dX12_joins_179 e ?_
    refine z_iload v7 dX12_joins_182 rfl ?_
    obtain ⟨x4, e, h⟩ := h
    refine zq_aI dX12_joins_184 e ?_
    refine zq_VV (N := MX12_lays) (As := [.int v4, .int ((1 : Int32) + v7), .int x4]) m_X12_109 dX12_joins_185 rfl rfl (Nat.le_of_ble_eq_true rfl) h (fun w5 h => ?_)
    refine z_iinc (i := 7) v7 (v7 + 1) dX12_joins_188 rfl rfl (by decide) rfl ?_
    refine z_goto 161 dX12_joins_191 rfl ?_
    exact h
theorem eX12_joins {X : zX} {d kc ks : Nat} {w : zW} {Q : Option Value → zW → Prop} (p0 : Nat) (a1 : Int32) (a2 : Int32) (a3 : Int32) (a4 : Int32) (h : zRn X d kc ks MX12_joins 0 [some (.ref p0), some (.int a1), some (.int a2), some (.int a3), some (.int a4), none, none, none] [] w Q) : zEv X d kc ks MX12_joins [.ref p0, .int a1, .int a2, .int a3, .int a4] w Q :=
  zEv.of (by decide) (Nat.le_of_ble_eq_true rfl) (Or.inr (by simp [Value.category])) h
set_option maxRecDepth 100000 in
set_option maxHeartbeats 4000000 in
theorem bX12_alike_0 {X : zX} {d kc ks : Nat} {w : zW} {Q : Option Value → zW → Prop} (p0 : Nat) (a1 : Int32) (a2 : Int32)
    (h : zIs w p0 11 ∧ zCallI X d MX12_isOrder [.ref p0, .int a1] w (fun x2 w1 => if x2 = 0 then (Q (some (.int (-2))) w1) else (zIs w1 p0 11 ∧ zCallI X d MX12_isOrder [.ref p0, .int a2] w1 (fun x4 w3 => if x4 = 0 then (Q (some (.int (-2))) w3) else (zIs w3 p0 11 ∧ zCallI X d MX12_many [.ref p0, .int a1] w3 (fun x6 w5 => zIs w5 p0 11 ∧ zCallI X d MX12_many [.ref p0, .int a2] w5 (fun x8 w7 => if x6 = x8 then (zIs w7 p0 11 ∧ zCallI X d MX12_names [.ref p0, .int a1, .int a2, .int 0, .int 0, .int 1] w7 (fun x10 w9 => if x10 ≤ 0 then (Q (some (.int 0)) w9) else (Q (some (.int 1)) w9))) else (Q (some (.int 0)) w7)))))))) :
    zRn X d kc ks MX12_alike 0 [some (.ref p0), some (.int a1), some (.int a2)] [] w Q := by
  refine z_aload_n p0 dX12_alike_0 rfl rfl ?_
  refine z_iload_n a1 dX12_alike_1 rfl rfl ?_
  refine zq_VI (N := MX12_isOrder) (As := [.int a1]) m_X12_80 dX12_alike_2 rfl rfl (Nat.le_of_ble_eq_true rfl) h (fun x2 w1 h => ?_)
  refine z_if_eq 16 dX12_alike_5 rfl (fun hc => ?_) (fun hc => ?_)
  · rw [if_pos hc] at h
    refine z_bipush (-2) dX12_alike_16 rfl ?_
    exact z_ireturn .int dX12_alike_18 rfl rfl h
  · rw [if_neg hc] at h
    refine z_aload_n p0 dX12_alike_8 rfl rfl ?_
    refine z_iload_n a2 dX12_alike_9 rfl rfl ?_
    refine zq_VI (N := MX12_isOrder) (As := [.int a2]) m_X12_80 dX12_alike_10 rfl rfl (Nat.le_of_ble_eq_true rfl) h (fun x4 w3 h => ?_)
    refine z_if_ne 19 dX12_alike_13 rfl (fun hc => ?_) (fun hc => ?_)
    · rw [if_neg hc] at h
      refine z_aload_n p0 dX12_alike_19 rfl rfl ?_
      refine z_iload_n a1 dX12_alike_20 rfl rfl ?_
      refine zq_VI (N := MX12_many) (As := [.int a1]) m_X12_76 dX12_alike_21 rfl rfl (Nat.le_of_ble_eq_true rfl) h (fun x6 w5 h => ?_)
      refine z_aload_n p0 dX12_alike_24 rfl rfl ?_
      refine z_iload_n a2 dX12_alike_25 rfl rfl ?_
      refine zq_VI (N := MX12_many) (As := [.int a2]) m_X12_76 dX12_alike_26 rfl rfl (Nat.le_of_ble_eq_true rfl) h (fun x8 w7 h => ?_)
      refine z_icmp_ne 48 dX12_alike_29 rfl (fun hc => ?_) (fun hc => ?_)
      · rw [if_neg hc] at h
        refine z_iconst 0 dX12_alike_48 rfl ?_
        exact z_ireturn .int dX12_alike_49 rfl rfl h
      · rw [if_pos hc] at h
        refine z_aload_n p0 dX12_alike_32 rfl rfl ?_
        refine z_iload_n a1 dX12_alike_33 rfl rfl ?_
        refine z_iload_n a2 dX12_alike_34 rfl rfl ?_
        refine z_iconst 0 dX12_alike_35 rfl ?_
        refine z_iconst 0 dX12_alike_36 rfl ?_
        refine z_iconst 1 dX12_alike_37 rfl ?_
        refine zq_VI (N := MX12_names) (As := [.int a1, .int a2, .int 0, .int 0, .int 1]) m_X12_364 dX12_alike_38 rfl rfl (Nat.le_of_ble_eq_true rfl) h (fun x10 w9 h => ?_)
        refine z_if_le 48 dX12_alike_41 rfl (fun hc => ?_) (fun hc => ?_)
        · rw [if_pos hc] at h
          refine z_iconst 0 dX12_alike_48 rfl ?_
          exact z_ireturn .int dX12_alike_49 rfl rfl h
        · rw [if_neg hc] at h
          refine z_iconst 1 dX12_alike_44 rfl ?_
          refine z_goto 49 dX12_alike_45 rfl ?_
          exact z_ireturn .int dX12_alike_49 rfl rfl h
    · rw [if_pos hc] at h
      refine z_bipush (-2) dX12_alike_16 rfl ?_
      exact z_ireturn .int dX12_alike_18 rfl rfl h
theorem eX12_alike {X : zX} {d kc ks : Nat} {w : zW} {Q : Option Value → zW → Prop} (p0 : Nat) (a1 : Int32) (a2 : Int32) (h : zRn X d kc ks MX12_alike 0 [some (.ref p0), some (.int a1), some (.int a2)] [] w Q) : zEv X d kc ks MX12_alike [.ref p0, .int a1, .int a2] w Q :=
  zEv.of (by decide) (Nat.le_of_ble_eq_true rfl) (Or.inr (by simp [Value.category])) h
set_option maxRecDepth 100000 in
set_option maxHeartbeats 4000000 in
theorem bX12_names_0 {X : zX} {d kc ks : Nat} {w : zW} {Q : Option Value → zW → Prop} (p0 : Nat) (a1 : Int32) (a2 : Int32) (a3 : Int32) (a4 : Int32) (a5 : Int32)
    (h : zIs w p0 11 ∧ zCallI X d MX12_many [.ref p0, .int a1] w (fun x2 w1 => if a3 = x2 then (Q (some (.int 1)) w1) else (zRn X d kc ks MX12_names 17 [some (.ref p0), some (.int a1), some (.int a2), some (.int a3), some (.int a4), some (.int a5), some (.int 0), some (.int 0), none, none] [] w1 Q))) :
    zRn X d kc ks MX12_names 0 [some (.ref p0), some (.int a1), some (.int a2), some (.int a3), some (.int a4), some (.int a5), none, none, none, none] [] w Q := by
  refine z_iload_n a3 dX12_names_0 rfl rfl ?_
  refine z_aload_n p0 dX12_names_1 rfl rfl ?_
  refine z_iload_n a1 dX12_names_2 rfl rfl ?_
  refine zq_VI (N := MX12_many) (As := [.int a1]) m_X12_76 dX12_names_3 rfl rfl (Nat.le_of_ble_eq_true rfl) h (fun x2 w1 h => ?_)
  refine z_icmp_ne 11 dX12_names_6 rfl (fun hc => ?_) (fun hc => ?_)
  · rw [if_neg hc] at h
    refine z_iconst 0 dX12_names_11 rfl ?_
    refine z_istore (i := 6) dX12_names_12 (by decide) rfl ?_
    refine z_iconst 0 dX12_names_14 rfl ?_
    refine z_istore (i := 7) dX12_names_15 (by decide) rfl ?_
    exact h
  · rw [if_pos hc] at h
    refine z_iconst 1 dX12_names_9 rfl ?_
    exact z_ireturn .int dX12_names_10 rfl rfl h
set_option maxRecDepth 100000 in
set_option maxHeartbeats 4000000 in
theorem bX12_names_17 {X : zX} {d kc ks : Nat} {w : zW} {Q : Option Value → zW → Prop} (v0 : Nat) (v1 : Int32) (v2 : Int32) (v3 : Int32) (v4 : Int32) (v5 : Int32) (v6 : Int32) (v7 : Int32)
    (h : zIs w v0 11 ∧ zCallI X d MX12_many [.ref v0, .int v1] w (fun x2 w1 => if x2 ≤ v7 then (Q (some (.int v6)) w1) else (zCallI X d MX12_has [.int v4, .int v7] w1 (fun x4 w3 => if x4 = 0 then (zRn X d kc ks MX12_names 42 [some (.ref v0), some (.int v1), some (.int v2), some (.int v3), some (.int v4), some (.int v5), some (.int v6), some (.int v7), none, none] [.int 1] w3 Q) else (zRn X d kc ks MX12_names 42 [some (.ref v0), some (.int v1), some (.int v2), some (.int v3), some (.int v4), some (.int v5), some (.int v6), some (.int v7), none, none] [.int 0] w3 Q))))) :
    zRn X d kc ks MX12_names 17 [some (.ref v0), some (.int v1), some (.int v2), some (.int v3), some (.int v4), some (.int v5), some (.int v6), some (.int v7), none, none] [] w Q := by
  refine z_iload v7 dX12_names_17 rfl ?_
  refine z_aload_n v0 dX12_names_19 rfl rfl ?_
  refine z_iload_n v1 dX12_names_20 rfl rfl ?_
  refine zq_VI (N := MX12_many) (As := [.int v1]) m_X12_76 dX12_names_21 rfl rfl (Nat.le_of_ble_eq_true rfl) h (fun x2 w1 h => ?_)
  refine z_icmp_ge 179 dX12_names_24 rfl (fun hc => ?_) (fun hc => ?_)
  · rw [if_pos hc] at h
    refine z_iload v6 dX12_names_179 rfl ?_
    exact z_ireturn .int dX12_names_181 rfl rfl h
  · rw [if_neg hc] at h
    refine z_iload v4 dX12_names_27 rfl ?_
    refine z_iload v7 dX12_names_29 rfl ?_
    refine zq_SI (N := MX12_has) (As := [.int v4, .int v7]) m_X12_89 dX12_names_31 rfl rfl (Nat.le_of_ble_eq_true rfl) h (fun x4 w3 h => ?_)
    refine z_if_ne 41 dX12_names_34 rfl (fun hc => ?_) (fun hc => ?_)
    · rw [if_neg hc] at h
      refine z_iconst 0 dX12_names_41 rfl ?_
      exact h
    · rw [if_pos hc] at h
      refine z_iconst 1 dX12_names_37 rfl ?_
      refine z_goto 42 dX12_names_38 rfl ?_
      exact h
set_option maxRecDepth 100000 in
set_option maxHeartbeats 4000000 in
theorem bX12_names_42 {X : zX} {d kc ks : Nat} {w : zW} {Q : Option Value → zW → Prop} (v0 : Nat) (v1 : Int32) (v2 : Int32) (v3 : Int32) (v4 : Int32) (v5 : Int32) (v6 : Int32) (v7 : Int32) (u0 : Int32)
    (h : zRn X d kc ks MX12_names 47 [some (.ref v0), some (.int v1), some (.int v2), some (.int v3), some (.int v4), some (.int v5), some (.int v6), some (.int v7), some (.int u0), some (.int 0)] [] w Q) :
    zRn X d kc ks MX12_names 42 [some (.ref v0), some (.int v1), some (.int v2), some (.int v3), some (.int v4), some (.int v5), some (.int v6), some (.int v7), none, none] [.int u0] w Q := by
  refine z_istore (i := 8) dX12_names_42 (by decide) rfl ?_
  refine z_iconst 0 dX12_names_44 rfl ?_
  refine z_istore (i := 9) dX12_names_45 (by decide) rfl ?_
  exact h
set_option maxRecDepth 100000 in
set_option maxHeartbeats 4000000 in
theorem bX12_names_47 {X : zX} {d kc ks : Nat} {w : zW} {Q : Option Value → zW → Prop} (v0 : Nat) (v1 : Int32) (v2 : Int32) (v3 : Int32) (v4 : Int32) (v5 : Int32) (v6 : Int32) (v7 : Int32) (v8 : Int32) (v9 : Int32)
    (h : if v3 ≤ v9 then (zRn X d kc ks MX12_names 121 [some (.ref v0), some (.int v1), some (.int v2), some (.int v3), some (.int v4), some (.int v5), some (.int v6), some (.int v7), some (.int v8), none] [] w Q) else (if v8 = 0 then (zRn X d kc ks MX12_names 121 [some (.ref v0), some (.int v1), some (.int v2), some (.int v3), some (.int v4), some (.int v5), some (.int v6), some (.int v7), some (.int v8), none] [] w Q) else (zIs w v0 11 ∧ zCallI X d MX12_isBelow [.ref v0, .int v1, .int v9, .int v3] w (fun x2 w1 => ∃ r3, zfR w1 v0 11 26 = some r3 ∧ (∃ x4, zaI w1 r3 v9 = some x4 ∧ (zIs w1 v0 11 ∧ zCallI X d MX12_isBelow [.ref v0, .int v2, .int x4, .int v7] w1 (fun x6 w5 => if x2 = x6 then (zIs w5 v0 11 ∧ zCallI X d MX12_isBelow [.ref v0, .int v1, .int v3, .int v9] w5 (fun x8 w7 => ∃ r9, zfR w7 v0 11 26 = some r9 ∧ (∃ x10, zaI w7 r9 v9 = some x10 ∧ (zIs w7 v0 11 ∧ zCallI X d MX12_isBelow [.ref v0, .int v2, .int v7, .int x10] w7 (fun x12 w11 => if x8 = x12 then (zRn X d kc ks MX12_names 113 [some (.ref v0), some (.int v1), some (.int v2), some (.int v3), some (.int v4), some (.int v5), some (.int v6), some (.int v7), none, some (.int v9)] [.int 1] w11 Q) else (zRn X d kc ks MX12_names 112 [some (.ref v0), some (.int v1), some (.int v2), some (.int v3), some (.int v4), some (.int v5), some (.int v6), some (.int v7), none, some (.int v9)] [] w11 Q)))))) else (zRn X d kc ks MX12_names 112 [some (.ref v0), some (.int v1), some (.int v2), some (.int v3), some (.int v4), some (.int v5), some (.int v6), some (.int v7), none, some (.int v9)] [] w5 Q)))))))) :
    zRn X d kc ks MX12_names 47 [some (.ref v0), some (.int v1), some (.int v2), some (.int v3), some (.int v4), some (.int v5), some (.int v6), some (.int v7), some (.int v8), some (.int v9)] [] w Q := by
  refine z_iload v9 dX12_names_47 rfl ?_
  refine z_iload_n v3 dX12_names_49 rfl rfl ?_
  refine z_icmp_ge 121 dX12_names_50 rfl (fun hc => ?_) (fun hc => ?_)
  · rw [if_pos hc] at h
    exact zRn.weak h (zLe_of [true, true, true, true, true, true, true, true, true, false] (And.intro rfl (And.intro rfl (And.intro rfl (And.intro rfl (And.intro rfl (And.intro rfl (And.intro rfl (And.intro rfl (And.intro rfl (And.intro rfl (trivial))))))))))))
  · rw [if_neg hc] at h
    refine z_iload v8 dX12_names_53 rfl ?_
    refine z_if_eq 121 dX12_names_55 rfl (fun hc => ?_) (fun hc => ?_)
    · rw [if_pos hc] at h
      exact zRn.weak h (zLe_of [true, true, true, true, true, true, true, true, true, false] (And.intro rfl (And.intro rfl (And.intro rfl (And.intro rfl (And.intro rfl (And.intro rfl (And.intro rfl (And.intro rfl (And.intro rfl (And.intro rfl (trivial))))))))))))
    · rw [if_neg hc] at h
      refine z_aload_n v0 dX12_names_58 rfl rfl ?_
      refine z_iload_n v1 dX12_names_59 rfl rfl ?_
      refine z_iload v9 dX12_names_60 rfl ?_
      refine z_iload_n v3 dX12_names_62 rfl rfl ?_
      refine zq_VI (N := MX12_isBelow) (As := [.int v1, .int v9, .int v3]) m_X12_93 dX12_names_63 rfl rfl (Nat.le_of_ble_eq_true rfl) h (fun x2 w1 h => ?_)
      refine z_aload_n v0 dX12_names_66 rfl rfl ?_
      refine z_iload_n v2 dX12_names_67 rfl rfl ?_
      refine z_aload_n v0 dX12_names_68 rfl rfl ?_
      obtain ⟨r3, e, h⟩ := h
      refine zq_fR f_X12_56 dX12_names_69 e ?_
      refine z_iload v9 dX12_names_72 rfl ?_
      obtain ⟨x4, e, h⟩ := h
      refine zq_aI dX12_names_74 e ?_
      refine z_iload v7 dX12_names_75 rfl ?_
      refine zq_VI (N := MX12_isBelow) (As := [.int v2, .int x4, .int v7]) m_X12_93 dX12_names_77 rfl rfl (Nat.le_of_ble_eq_true rfl) h (fun x6 w5 h => ?_)
      refine z_icmp_ne 112 dX12_names_80 rfl (fun hc => ?_) (fun hc => ?_)
      · rw [if_neg hc] at h
        exact zRn.weak h (zLe_of [true, true, true, true, true, true, true, true, false, true] (And.intro rfl (And.intro rfl (And.intro rfl (And.intro rfl (And.intro rfl (And.intro rfl (And.intro rfl (And.intro rfl (And.intro rfl (And.intro rfl (trivial))))))))))))
      · rw [if_pos hc] at h
        refine z_aload_n v0 dX12_names_83 rfl rfl ?_
        refine z_iload_n v1 dX12_names_84 rfl rfl ?_
        refine z_iload_n v3 dX12_names_85 rfl rfl ?_
        refine z_iload v9 dX12_names_86 rfl ?_
        refine zq_VI (N := MX12_isBelow) (As := [.int v1, .int v3, .int v9]) m_X12_93 dX12_names_88 rfl rfl (Nat.le_of_ble_eq_true rfl) h (fun x8 w7 h => ?_)
        refine z_aload_n v0 dX12_names_91 rfl rfl ?_
        refine z_iload_n v2 dX12_names_92 rfl rfl ?_
        refine z_iload v7 dX12_names_93 rfl ?_
        refine z_aload_n v0 dX12_names_95 rfl rfl ?_
        obtain ⟨r9, e, h⟩ := h
        refine zq_fR f_X12_56 dX12_names_96 e ?_
        refine z_iload v9 dX12_names_99 rfl ?_
        obtain ⟨x10, e, h⟩ := h
        refine zq_aI dX12_names_101 e ?_
        refine zq_VI (N := MX12_isBelow) (As := [.int v2, .int v7, .int x10]) m_X12_93 dX12_names_102 rfl rfl (Nat.le_of_ble_eq_true rfl) h (fun x12 w11 h => ?_)
        refine z_icmp_ne 112 dX12_names_105 rfl (fun hc => ?_) (fun hc => ?_)
        · rw [if_neg hc] at h
          exact zRn.weak h (zLe_of [true, true, true, true, true, true, true, true, false, true] (And.intro rfl (And.intro rfl (And.intro rfl (And.intro rfl (And.intro rfl (And.intro rfl (And.intro rfl (And.intro rfl (And.intro rfl (And.intro rfl (trivial))))))))))))
        · rw [if_pos hc] at h
          refine z_iconst 1 dX12_names_108 rfl ?_
          refine z_goto 113 dX12_names_109 rfl ?_
          exact zRn.weak h (zLe_of [true, true, true, true, true, true, true, true, false, true] (And.intro rfl (And.intro rfl (And.intro rfl (And.intro rfl (And.intro rfl (And.intro rfl (And.intro rfl (And.intro rfl (And.intro rfl (And.intro rfl (trivial))))))))))))
set_option maxRecDepth 100000 in
set_option maxHeartbeats 4000000 in
theorem bX12_names_112 {X : zX} {d kc ks : Nat} {w : zW} {Q : Option Value → zW → Prop} (v0 : Nat) (v1 : Int32) (v2 : Int32) (v3 : Int32) (v4 : Int32) (v5 : Int32) (v6 : Int32) (v7 : Int32) (v9 : Int32)
    (h : zRn X d kc ks MX12_names 113 [some (.ref v0), some (.int v1), some (.int v2), some (.int v3), some (.int v4), some (.int v5), some (.int v6), some (.int v7), none, some (.int v9)] [.int 0] w Q) :
    zRn X d kc ks MX12_names 112 [some (.ref v0), some (.int v1), some (.int v2), some (.int v3), some (.int v4), some (.int v5), some (.int v6), some (.int v7), none, some (.int v9)] [] w Q := by
  refine z_iconst 0 dX12_names_112 rfl ?_
  exact h
set_option maxRecDepth 100000 in
set_option maxHeartbeats 4000000 in
theorem bX12_names_113 {X : zX} {d kc ks : Nat} {w : zW} {Q : Option Value → zW → Prop} (v0 : Nat) (v1 : Int32) (v2 : Int32) (v3 : Int32) (v4 : Int32) (v5 : Int32) (v6 : Int32) (v7 : Int32) (v9 : Int32) (u0 : Int32)
    (h : zRn X d kc ks MX12_names 47 [some (.ref v0), some (.int v1), some (.int v2), some (.int v3), some (.int v4), some (.int v5), some (.int v6), some (.int v7), some (.int u0), some (.int (v9 + 1))] [] w Q) :
    zRn X d kc ks MX12_names 113 [some (.ref v0), some (.int v1), some (.int v2), some (.int v3), some (.int v4), some (.int v5), some (.int v6), some (.int v7), none, some (.int v9)] [.int u0] w Q := by
  refine z_istore (i := 8) dX12_names_113 (by decide) rfl ?_
  refine z_iinc (i := 9) v9 (v9 + 1) dX12_names_115 rfl rfl (by decide) rfl ?_
  refine z_goto 47 dX12_names_118 rfl ?_
  exact h
set_option maxRecDepth 100000 in
set_option maxHeartbeats 4000000 in
theorem bX12_names_121 {X : zX} {d kc ks : Nat} {w : zW} {Q : Option Value → zW → Prop} (v0 : Nat) (v1 : Int32) (v2 : Int32) (v3 : Int32) (v4 : Int32) (v5 : Int32) (v6 : Int32) (v7 : Int32) (v8 : Int32)
    (h : if v8 = 0 then (zRn X d kc ks MX12_names 173 [some (.ref v0), some (.int v1), some (.int v2), some (.int v3), some (.int v4), some (.int v5), some (.int v6), some (.int v7), none, none] [] w Q) else (∃ r1, zfR w v0 11 26 = some r1 ∧ (∃ w2, zsI w r1 v3 v7 = some w2 ∧ (zIs w2 v0 11 ∧ zCallI X d MX12_names [.ref v0, .int v1, .int v2, .int (v3 + 1), .int (v4 ||| ((1 : Int32) <<< (v7 &&& 31))), .int v5] w2 (fun x4 w3 => if v5 = 0 then (zRn X d kc ks MX12_names 173 [some (.ref v0), some (.int v1), some (.int v2), some (.int v3), some (.int v4), some (.int v5), some (.int (v6 + x4)), some (.int v7), none, none] [] w3 Q) else (if (v6 + x4) ≤ 0 then (zRn X d kc ks MX12_names 173 [some (.ref v0), some (.int v1), some (.int v2), some (.int v3), some (.int v4), some (.int v5), some (.int (v6 + x4)), some (.int v7), none, none] [] w3 Q) else (Q (some (.int (v6 + x4))) w3))))))) :
    zRn X d kc ks MX12_names 121 [some (.ref v0), some (.int v1), some (.int v2), some (.int v3), some (.int v4), some (.int v5), some (.int v6), some (.int v7), some (.int v8), none] [] w Q := by
  refine z_iload v8 dX12_names_121 rfl ?_
  refine z_if_ne 129 dX12_names_123 rfl (fun hc => ?_) (fun hc => ?_)
  · rw [if_neg hc] at h
    refine z_aload_n v0 dX12_names_129 rfl rfl ?_
    obtain ⟨r1, e, h⟩ := h
    refine zq_fR f_X12_56 dX12_names_130 e ?_
    refine z_iload_n v3 dX12_names_133 rfl rfl ?_
    refine z_iload v7 dX12_names_134 rfl ?_
    obtain ⟨w2, e, h⟩ := h
    refine zq_sI dX12_names_136 e ?_
    refine z_iload v6 dX12_names_137 rfl ?_
    refine z_aload_n v0 dX12_names_139 rfl rfl ?_
    refine z_iload_n v1 dX12_names_140 rfl rfl ?_
    refine z_iload_n v2 dX12_names_141 rfl rfl ?_
    refine z_iload_n v3 dX12_names_142 rfl rfl ?_
    refine z_iconst 1 dX12_names_143 rfl ?_
    refine z_iadd dX12_names_144 ?_
    refine z_iload v4 dX12_names_145 rfl ?_
    refine z_iconst 1 dX12_names_147 rfl ?_
    refine z_iload v7 dX12_names_148 rfl ?_
    refine z_ishl dX12_names_150 ?_
    refine z_ior dX12_names_151 ?_
    refine z_iload v5 dX12_names_152 rfl ?_
    refine zq_VI (N := MX12_names) (As := [.int v1, .int v2, .int (v3 + 1), .int (v4 ||| ((1 : Int32) <<< (v7 &&& 31))), .int v5]) m_X12_364 dX12_names_154 rfl rfl (Nat.le_of_ble_eq_true rfl) h (fun x4 w3 h => ?_)
    refine z_iadd dX12_names_157 ?_
    refine z_istore (i := 6) dX12_names_158 (by decide) rfl ?_
    refine z_iload v5 dX12_names_160 rfl ?_
    refine z_if_eq 173 dX12_names_162 rfl (fun hc => ?_) (fun hc => ?_)
    · rw [if_pos hc] at h
      exact zRn.weak h (zLe_of [true, true, true, true, true, true, true, true, false, true] (And.intro rfl (And.intro rfl (And.intro rfl (And.intro rfl (And.intro rfl (And.intro rfl (And.intro rfl (And.intro rfl (And.intro rfl (And.intro rfl (trivial))))))))))))
    · rw [if_neg hc] at h
      refine z_iload (v6 + x4) dX12_names_165 rfl ?_
      refine z_if_le 173 dX12_names_167 rfl (fun hc => ?_) (fun hc => ?_)
      · rw [if_pos hc] at h
        exact zRn.weak h (zLe_of [true, true, true, true, true, true, true, true, false, true] (And.intro rfl (And.intro rfl (And.intro rfl (And.intro rfl (And.intro rfl (And.intro rfl (And.intro rfl (And.intro rfl (And.intro rfl (And.intro rfl (trivial))))))))))))
      · rw [if_neg hc] at h
        refine z_iload (v6 + x4) dX12_names_170 rfl ?_
        exact z_ireturn .int dX12_names_172 rfl rfl h
  · rw [if_pos hc] at h
    refine z_goto 173 dX12_names_126 rfl ?_
    exact zRn.weak h (zLe_of [true, true, true, true, true, true, true, true, false, true] (And.intro rfl (And.intro rfl (And.intro rfl (And.intro rfl (And.intro rfl (And.intro rfl (And.intro rfl (And.intro rfl (And.intro rfl (And.intro rfl (trivial))))))))))))
set_option maxRecDepth 100000 in
set_option maxHeartbeats 4000000 in
theorem bX12_names_173 {X : zX} {d kc ks : Nat} {w : zW} {Q : Option Value → zW → Prop} (v0 : Nat) (v1 : Int32) (v2 : Int32) (v3 : Int32) (v4 : Int32) (v5 : Int32) (v6 : Int32) (v7 : Int32)
    (h : zRn X d kc ks MX12_names 17 [some (.ref v0), some (.int v1), some (.int v2), some (.int v3), some (.int v4), some (.int v5), some (.int v6), some (.int (v7 + 1)), none, none] [] w Q) :
    zRn X d kc ks MX12_names 173 [some (.ref v0), some (.int v1), some (.int v2), some (.int v3), some (.int v4), some (.int v5), some (.int v6), some (.int v7), none, none] [] w Q := by
  refine z_iinc (i := 7) v7 (v7 + 1) dX12_names_173 rfl rfl (by decide) rfl ?_
  refine z_goto 17 dX12_names_176 rfl ?_
  exact h
theorem eX12_names {X : zX} {d kc ks : Nat} {w : zW} {Q : Option Value → zW → Prop} (p0 : Nat) (a1 : Int32) (a2 : Int32) (a3 : Int32) (a4 : Int32) (a5 : Int32) (h : zRn X d kc ks MX12_names 0 [some (.ref p0), some (.int a1), some (.int a2), some (.int a3), some (.int a4), some (.int a5), none, none, none, none] [] w Q) : zEv X d kc ks MX12_names [.ref p0, .int a1, .int a2, .int a3, .int a4, .int a5] w Q :=
  zEv.of (by decide) (Nat.le_of_ble_eq_true rfl) (Or.inr (by simp [Value.category])) h
set_option maxRecDepth 100000 in
set_option maxHeartbeats 4000000 in
theorem bX12_selves_0 {X : zX} {d kc ks : Nat} {w : zW} {Q : Option Value → zW → Prop} (p0 : Nat) (a1 : Int32)
    (h : zIs w p0 11 ∧ zCallI X d MX12_isOrder [.ref p0, .int a1] w (fun x2 w1 => if x2 = 0 then (Q (some (.int (-2))) w1) else (zIs w1 p0 11 ∧ zCallI X d MX12_names [.ref p0, .int a1, .int a1, .int 0, .int 0, .int 0] w1 (fun x4 w3 => Q (some (.int x4)) w3)))) :
    zRn X d kc ks MX12_selves 0 [some (.ref p0), some (.int a1)] [] w Q := by
  refine z_aload_n p0 dX12_selves_0 rfl rfl ?_
  refine z_iload_n a1 dX12_selves_1 rfl rfl ?_
  refine zq_VI (N := MX12_isOrder) (As := [.int a1]) m_X12_80 dX12_selves_2 rfl rfl (Nat.le_of_ble_eq_true rfl) h (fun x2 w1 h => ?_)
  refine z_if_eq 20 dX12_selves_5 rfl (fun hc => ?_) (fun hc => ?_)
  · rw [if_pos hc] at h
    refine z_bipush (-2) dX12_selves_20 rfl ?_
    exact z_ireturn .int dX12_selves_22 rfl rfl h
  · rw [if_neg hc] at h
    refine z_aload_n p0 dX12_selves_8 rfl rfl ?_
    refine z_iload_n a1 dX12_selves_9 rfl rfl ?_
    refine z_iload_n a1 dX12_selves_10 rfl rfl ?_
    refine z_iconst 0 dX12_selves_11 rfl ?_
    refine z_iconst 0 dX12_selves_12 rfl ?_
    refine z_iconst 0 dX12_selves_13 rfl ?_
    refine zq_VI (N := MX12_names) (As := [.int a1, .int a1, .int 0, .int 0, .int 0]) m_X12_364 dX12_selves_14 rfl rfl (Nat.le_of_ble_eq_true rfl) h (fun x4 w3 h => ?_)
    refine z_goto 22 dX12_selves_17 rfl ?_
    exact z_ireturn .int dX12_selves_22 rfl rfl h
theorem eX12_selves {X : zX} {d kc ks : Nat} {w : zW} {Q : Option Value → zW → Prop} (p0 : Nat) (a1 : Int32) (h : zRn X d kc ks MX12_selves 0 [some (.ref p0), some (.int a1)] [] w Q) : zEv X d kc ks MX12_selves [.ref p0, .int a1] w Q :=
  zEv.of (by decide) (Nat.le_of_ble_eq_true rfl) (Or.inr (by simp [Value.category])) h
set_option maxRecDepth 100000 in
set_option maxHeartbeats 4000000 in
theorem bX12_tell_0 {X : zX} {d kc ks : Nat} {w : zW} {Q : Option Value → zW → Prop} (p0 : Nat) (a1 : Int32)
    (h : zIs w p0 11 ∧ zCallI X d MX12_isOrder [.ref p0, .int a1] w (fun x2 w1 => if x2 = 0 then (Q (some (.int (-2))) w1) else (∃ w3, zsF w1 p0 11 28 (.int 0) = some w3 ∧ (zIs w3 p0 11 ∧ zCallV X d MX12_says [.ref p0, .ref (zTx 2)] w3 (fun w4 => zIs w4 p0 11 ∧ zCallI X d MX12_many [.ref p0, .int a1] w4 (fun x6 w5 => zIs w5 p0 11 ∧ zCallV X d MX12_saysDigit [.ref p0, .int x6] w5 (fun w7 => zRn X d kc ks MX12_tell 36 [some (.ref p0), some (.int a1), some (.int 0), some (.int 0), none] [] w7 Q))))))) :
    zRn X d kc ks MX12_tell 0 [some (.ref p0), some (.int a1), none, none, none] [] w Q := by
  refine z_aload_n p0 dX12_tell_0 rfl rfl ?_
  refine z_iload_n a1 dX12_tell_1 rfl rfl ?_
  refine zq_VI (N := MX12_isOrder) (As := [.int a1]) m_X12_80 dX12_tell_2 rfl rfl (Nat.le_of_ble_eq_true rfl) h (fun x2 w1 h => ?_)
  refine z_if_ne 11 dX12_tell_5 rfl (fun hc => ?_) (fun hc => ?_)
  · rw [if_neg hc] at h
    refine z_aload_n p0 dX12_tell_11 rfl rfl ?_
    refine z_iconst 0 dX12_tell_12 rfl ?_
    obtain ⟨w3, e, h⟩ := h
    refine zq_sF f_X12_205 dX12_tell_13 (fun _ => rfl) (fun _ => rfl) e ?_
    refine z_aload_n p0 dX12_tell_16 rfl rfl ?_
    refine z_ldcwS (q := 6) rfl dX12_tell_17 ?_
    refine zq_VV (N := MX12_says) (As := [.ref (zTx 2)]) m_X12_370 dX12_tell_20 rfl rfl (Nat.le_of_ble_eq_true rfl) h (fun w4 h => ?_)
    refine z_aload_n p0 dX12_tell_23 rfl rfl ?_
    refine z_aload_n p0 dX12_tell_24 rfl rfl ?_
    refine z_iload_n a1 dX12_tell_25 rfl rfl ?_
    refine zq_VI (N := MX12_many) (As := [.int a1]) m_X12_76 dX12_tell_26 rfl rfl (Nat.le_of_ble_eq_true rfl) h (fun x6 w5 h => ?_)
    refine zq_VV (N := MX12_saysDigit) (As := [.int x6]) m_X12_374 dX12_tell_29 rfl rfl (Nat.le_of_ble_eq_true rfl) h (fun w7 h => ?_)
    refine z_iconst 0 dX12_tell_32 rfl ?_
    refine z_istore_n (i := 2) dX12_tell_33 rfl (by decide) rfl ?_
    refine z_iconst 0 dX12_tell_34 rfl ?_
    refine z_istore_n (i := 3) dX12_tell_35 rfl (by decide) rfl ?_
    exact h
  · rw [if_pos hc] at h
    refine z_bipush (-2) dX12_tell_8 rfl ?_
    exact z_ireturn .int dX12_tell_10 rfl rfl h
set_option maxRecDepth 100000 in
set_option maxHeartbeats 4000000 in
theorem bX12_tell_36 {X : zX} {d kc ks : Nat} {w : zW} {Q : Option Value → zW → Prop} (v0 : Nat) (v1 : Int32) (v2 : Int32) (v3 : Int32)
    (h : zIs w v0 11 ∧ zCallI X d MX12_many [.ref v0, .int v1] w (fun x2 w1 => if x2 ≤ v3 then (zIs w1 v0 11 ∧ zCallV X d MX12_says [.ref v0, .ref (zTx 7)] w1 (fun w3 => zRn X d kc ks MX12_tell 127 [some (.ref v0), some (.int v1), none, some (.int 0), none] [] w3 Q)) else (zRn X d kc ks MX12_tell 48 [some (.ref v0), some (.int v1), some (.int v2), some (.int v3), some (.int 0)] [] w1 Q))) :
    zRn X d kc ks MX12_tell 36 [some (.ref v0), some (.int v1), some (.int v2), some (.int v3), none] [] w Q := by
  refine z_iload_n v3 dX12_tell_36 rfl rfl ?_
  refine z_aload_n v0 dX12_tell_37 rfl rfl ?_
  refine z_iload_n v1 dX12_tell_38 rfl rfl ?_
  refine zq_VI (N := MX12_many) (As := [.int v1]) m_X12_76 dX12_tell_39 rfl rfl (Nat.le_of_ble_eq_true rfl) h (fun x2 w1 h => ?_)
  refine z_icmp_ge 118 dX12_tell_42 rfl (fun hc => ?_) (fun hc => ?_)
  · rw [if_pos hc] at h
    refine z_aload_n v0 dX12_tell_118 rfl rfl ?_
    refine z_ldcwS (q := 10) rfl dX12_tell_119 ?_
    refine zq_VV (N := MX12_says) (As := [.ref (zTx 7)]) m_X12_370 dX12_tell_122 rfl rfl (Nat.le_of_ble_eq_true rfl) h (fun w3 h => ?_)
    refine z_iconst 0 dX12_tell_125 rfl ?_
    refine z_istore_n (i := 3) dX12_tell_126 rfl (by decide) rfl ?_
    exact zRn.weak h (zLe_of [true, true, false, true, true] (And.intro rfl (And.intro rfl (And.intro rfl (And.intro rfl (And.intro rfl (trivial)))))))
  · rw [if_neg hc] at h
    refine z_iconst 0 dX12_tell_45 rfl ?_
    refine z_istore (i := 4) dX12_tell_46 (by decide) rfl ?_
    exact h
set_option maxRecDepth 100000 in
set_option maxHeartbeats 4000000 in
theorem bX12_tell_48 {X : zX} {d kc ks : Nat} {w : zW} {Q : Option Value → zW → Prop} (v0 : Nat) (v1 : Int32) (v2 : Int32) (v3 : Int32) (v4 : Int32)
    (h : zIs w v0 11 ∧ zCallI X d MX12_many [.ref v0, .int v1] w (fun x2 w1 => if x2 ≤ v4 then (zRn X d kc ks MX12_tell 36 [some (.ref v0), some (.int v1), some (.int v2), some (.int (v3 + 1)), none] [] w1 Q) else (zIs w1 v0 11 ∧ zCallI X d MX12_isCover [.ref v0, .int v1, .int v3, .int v4] w1 (fun x4 w3 => if x4 = 0 then (zRn X d kc ks MX12_tell 106 [some (.ref v0), some (.int v1), some (.int v2), some (.int v3), some (.int v4)] [] w3 Q) else (if v2 = 0 then (zRn X d kc ks MX12_tell 83 [some (.ref v0), some (.int v1), none, some (.int v3), some (.int v4)] [.ref (zTx 5), .ref v0] w3 Q) else (zRn X d kc ks MX12_tell 83 [some (.ref v0), some (.int v1), none, some (.int v3), some (.int v4)] [.ref (zTx 4), .ref v0] w3 Q)))))) :
    zRn X d kc ks MX12_tell 48 [some (.ref v0), some (.int v1), some (.int v2), some (.int v3), some (.int v4)] [] w Q := by
  refine z_iload v4 dX12_tell_48 rfl ?_
  refine z_aload_n v0 dX12_tell_50 rfl rfl ?_
  refine z_iload_n v1 dX12_tell_51 rfl rfl ?_
  refine zq_VI (N := MX12_many) (As := [.int v1]) m_X12_76 dX12_tell_52 rfl rfl (Nat.le_of_ble_eq_true rfl) h (fun x2 w1 h => ?_)
  refine z_icmp_ge 112 dX12_tell_55 rfl (fun hc => ?_) (fun hc => ?_)
  · rw [if_pos hc] at h
    refine z_iinc (i := 3) v3 (v3 + 1) dX12_tell_112 rfl rfl (by decide) rfl ?_
    refine z_goto 36 dX12_tell_115 rfl ?_
    exact zRn.weak h (zLe_of [true, true, true, true, false] (And.intro rfl (And.intro rfl (And.intro rfl (And.intro rfl (And.intro rfl (trivial)))))))
  · rw [if_neg hc] at h
    refine z_aload_n v0 dX12_tell_58 rfl rfl ?_
    refine z_iload_n v1 dX12_tell_59 rfl rfl ?_
    refine z_iload_n v3 dX12_tell_60 rfl rfl ?_
    refine z_iload v4 dX12_tell_61 rfl ?_
    refine zq_VI (N := MX12_isCover) (As := [.int v1, .int v3, .int v4]) m_X12_236 dX12_tell_63 rfl rfl (Nat.le_of_ble_eq_true rfl) h (fun x4 w3 h => ?_)
    refine z_if_eq 106 dX12_tell_66 rfl (fun hc => ?_) (fun hc => ?_)
    · rw [if_pos hc] at h
      exact h
    · rw [if_neg hc] at h
      refine z_aload_n v0 dX12_tell_69 rfl rfl ?_
      refine z_iload_n v2 dX12_tell_70 rfl rfl ?_
      refine z_if_eq 80 dX12_tell_71 rfl (fun hc => ?_) (fun hc => ?_)
      · rw [if_pos hc] at h
        refine z_ldcwS (q := 8) rfl dX12_tell_80 ?_
        exact zRn.weak h (zLe_of [true, true, false, true, true] (And.intro rfl (And.intro rfl (And.intro rfl (And.intro rfl (And.intro rfl (trivial)))))))
      · rw [if_neg hc] at h
        refine z_ldcwS (q := 7) rfl dX12_tell_74 ?_
        refine z_goto 83 dX12_tell_77 rfl ?_
        exact zRn.weak h (zLe_of [true, true, false, true, true] (And.intro rfl (And.intro rfl (And.intro rfl (And.intro rfl (And.intro rfl (trivial)))))))
set_option maxRecDepth 100000 in
set_option maxHeartbeats 4000000 in
theorem bX12_tell_83 {X : zX} {d kc ks : Nat} {w : zW} {Q : Option Value → zW → Prop} (v0 : Nat) (v1 : Int32) (v3 : Int32) (v4 : Int32) (u0 : Nat) (u1 : Nat)
    (h : zIs w u1 11 ∧ zCallV X d MX12_says [.ref u1, .ref u0] w (fun w1 => zIs w1 v0 11 ∧ zCallV X d MX12_saysDigit [.ref v0, .int v3] w1 (fun w2 => zIs w2 v0 11 ∧ zCallV X d MX12_says [.ref v0, .ref (zTx 6)] w2 (fun w3 => zIs w3 v0 11 ∧ zCallV X d MX12_saysDigit [.ref v0, .int v4] w3 (fun w4 => zRn X d kc ks MX12_tell 106 [some (.ref v0), some (.int v1), some (.int 1), some (.int v3), some (.int v4)] [] w4 Q))))) :
    zRn X d kc ks MX12_tell 83 [some (.ref v0), some (.int v1), none, some (.int v3), some (.int v4)] [.ref u0, .ref u1] w Q := by
  refine zq_VV (N := MX12_says) (As := [.ref u0]) m_X12_370 dX12_tell_83 rfl rfl (Nat.le_of_ble_eq_true rfl) h (fun w1 h => ?_)
  refine z_aload_n v0 dX12_tell_86 rfl rfl ?_
  refine z_iload_n v3 dX12_tell_87 rfl rfl ?_
  refine zq_VV (N := MX12_saysDigit) (As := [.int v3]) m_X12_374 dX12_tell_88 rfl rfl (Nat.le_of_ble_eq_true rfl) h (fun w2 h => ?_)
  refine z_aload_n v0 dX12_tell_91 rfl rfl ?_
  refine z_ldcwS (q := 9) rfl dX12_tell_92 ?_
  refine zq_VV (N := MX12_says) (As := [.ref (zTx 6)]) m_X12_370 dX12_tell_95 rfl rfl (Nat.le_of_ble_eq_true rfl) h (fun w3 h => ?_)
  refine z_aload_n v0 dX12_tell_98 rfl rfl ?_
  refine z_iload v4 dX12_tell_99 rfl ?_
  refine zq_VV (N := MX12_saysDigit) (As := [.int v4]) m_X12_374 dX12_tell_101 rfl rfl (Nat.le_of_ble_eq_true rfl) h (fun w4 h => ?_)
  refine z_iconst 1 dX12_tell_104 rfl ?_
  refine z_istore_n (i := 2) dX12_tell_105 rfl (by decide) rfl ?_
  exact h
set_option maxRecDepth 100000 in
set_option maxHeartbeats 4000000 in
theorem bX12_tell_106 {X : zX} {d kc ks : Nat} {w : zW} {Q : Option Value → zW → Prop} (v0 : Nat) (v1 : Int32) (v2 : Int32) (v3 : Int32) (v4 : Int32)
    (h : zRn X d kc ks MX12_tell 48 [some (.ref v0), some (.int v1), some (.int v2), some (.int v3), some (.int (v4 + 1))] [] w Q) :
    zRn X d kc ks MX12_tell 106 [some (.ref v0), some (.int v1), some (.int v2), some (.int v3), some (.int v4)] [] w Q := by
  refine z_iinc (i := 4) v4 (v4 + 1) dX12_tell_106 rfl rfl (by decide) rfl ?_
  refine z_goto 48 dX12_tell_109 rfl ?_
  exact h
set_option maxRecDepth 100000 in
set_option maxHeartbeats 4000000 in
theorem bX12_tell_127 {X : zX} {d kc ks : Nat} {w : zW} {Q : Option Value → zW → Prop} (v0 : Nat) (v1 : Int32) (v3 : Int32)
    (h : zIs w v0 11 ∧ zCallI X d MX12_rows [.ref v0, .int v1] w (fun x2 w1 => if x2 ≤ v3 then (∃ x3, zfI w1 v0 11 28 = some x3 ∧ (Q (some (.int x3)) w1)) else (zIs w1 v0 11 ∧ zCallV X d MX12_says [.ref v0, .ref (zTx 3)] w1 (fun w4 => zRn X d kc ks MX12_tell 146 [some (.ref v0), some (.int v1), none, some (.int v3), some (.int 0)] [] w4 Q)))) :
    zRn X d kc ks MX12_tell 127 [some (.ref v0), some (.int v1), none, some (.int v3), none] [] w Q := by
  refine z_iload_n v3 dX12_tell_127 rfl rfl ?_
  refine z_aload_n v0 dX12_tell_128 rfl rfl ?_
  refine z_iload_n v1 dX12_tell_129 rfl rfl ?_
  refine zq_VI (N := MX12_rows) (As := [.int v1]) m_X12_83 dX12_tell_130 rfl rfl (Nat.le_of_ble_eq_true rfl) h (fun x2 w1 h => ?_)
  refine z_icmp_ge 187 dX12_tell_133 rfl (fun hc => ?_) (fun hc => ?_)
  · rw [if_pos hc] at h
    refine z_aload_n v0 dX12_tell_187 rfl rfl ?_
    obtain ⟨x3, e, h⟩ := h
    refine zq_fI f_X12_205 dX12_tell_188 e ?_
    exact z_ireturn .int dX12_tell_191 rfl rfl h
  · rw [if_neg hc] at h
    refine z_aload_n v0 dX12_tell_136 rfl rfl ?_
    refine z_ldcwS (q := 11) rfl dX12_tell_137 ?_
    refine zq_VV (N := MX12_says) (As := [.ref (zTx 3)]) m_X12_370 dX12_tell_140 rfl rfl (Nat.le_of_ble_eq_true rfl) h (fun w4 h => ?_)
    refine z_iconst 0 dX12_tell_143 rfl ?_
    refine z_istore (i := 4) dX12_tell_144 (by decide) rfl ?_
    exact h
set_option maxRecDepth 100000 in
set_option maxHeartbeats 4000000 in
theorem bX12_tell_146 {X : zX} {d kc ks : Nat} {w : zW} {Q : Option Value → zW → Prop} (v0 : Nat) (v1 : Int32) (v3 : Int32) (v4 : Int32)
    (h : zIs w v0 11 ∧ zCallI X d MX12_many [.ref v0, .int v1] w (fun x2 w1 => if x2 ≤ v4 then (zIs w1 v0 11 ∧ zCallV X d MX12_says [.ref v0, .ref (zTx 7)] w1 (fun w3 => zRn X d kc ks MX12_tell 127 [some (.ref v0), some (.int v1), none, some (.int (v3 + 1)), none] [] w3 Q)) else (zIs w1 v0 11 ∧ zCallI X d MX12_rowAt [.ref v0, .int v1, .int v3, .int v4] w1 (fun x5 w4 => zIs w4 v0 11 ∧ zCallV X d MX12_saysDigit [.ref v0, .int x5] w4 (fun w6 => zRn X d kc ks MX12_tell 146 [some (.ref v0), some (.int v1), none, some (.int v3), some (.int (v4 + 1))] [] w6 Q))))) :
    zRn X d kc ks MX12_tell 146 [some (.ref v0), some (.int v1), none, some (.int v3), some (.int v4)] [] w Q := by
  refine z_iload v4 dX12_tell_146 rfl ?_
  refine z_aload_n v0 dX12_tell_148 rfl rfl ?_
  refine z_iload_n v1 dX12_tell_149 rfl rfl ?_
  refine zq_VI (N := MX12_many) (As := [.int v1]) m_X12_76 dX12_tell_150 rfl rfl (Nat.le_of_ble_eq_true rfl) h (fun x2 w1 h => ?_)
  refine z_icmp_ge 174 dX12_tell_153 rfl (fun hc => ?_) (fun hc => ?_)
  · rw [if_pos hc] at h
    refine z_aload_n v0 dX12_tell_174 rfl rfl ?_
    refine z_ldcwS (q := 10) rfl dX12_tell_175 ?_
    refine zq_VV (N := MX12_says) (As := [.ref (zTx 7)]) m_X12_370 dX12_tell_178 rfl rfl (Nat.le_of_ble_eq_true rfl) h (fun w3 h => ?_)
    refine z_iinc (i := 3) v3 (v3 + 1) dX12_tell_181 rfl rfl (by decide) rfl ?_
    refine z_goto 127 dX12_tell_184 rfl ?_
    exact zRn.weak h (zLe_of [true, true, true, true, false] (And.intro rfl (And.intro rfl (And.intro rfl (And.intro rfl (And.intro rfl (trivial)))))))
  · rw [if_neg hc] at h
    refine z_aload_n v0 dX12_tell_156 rfl rfl ?_
    refine z_aload_n v0 dX12_tell_157 rfl rfl ?_
    refine z_iload_n v1 dX12_tell_158 rfl rfl ?_
    refine z_iload_n v3 dX12_tell_159 rfl rfl ?_
    refine z_iload v4 dX12_tell_160 rfl ?_
    refine zq_VI (N := MX12_rowAt) (As := [.int v1, .int v3, .int v4]) m_X12_291 dX12_tell_162 rfl rfl (Nat.le_of_ble_eq_true rfl) h (fun x5 w4 h => ?_)
    refine zq_VV (N := MX12_saysDigit) (As := [.int x5]) m_X12_374 dX12_tell_165 rfl rfl (Nat.le_of_ble_eq_true rfl) h (fun w6 h => ?_)
    refine z_iinc (i := 4) v4 (v4 + 1) dX12_tell_168 rfl rfl (by decide) rfl ?_
    refine z_goto 146 dX12_tell_171 rfl ?_
    exact h
theorem eX12_tell {X : zX} {d kc ks : Nat} {w : zW} {Q : Option Value → zW → Prop} (p0 : Nat) (a1 : Int32) (h : zRn X d kc ks MX12_tell 0 [some (.ref p0), some (.int a1), none, none, none] [] w Q) : zEv X d kc ks MX12_tell [.ref p0, .int a1] w Q :=
  zEv.of (by decide) (Nat.le_of_ble_eq_true rfl) (Or.inr (by simp [Value.category])) h
set_option maxRecDepth 100000 in
set_option maxHeartbeats 4000000 in
theorem bX12_says_0 {X : zX} {d kc ks : Nat} {w : zW} {Q : Option Value → zW → Prop} (p0 : Nat) (p1 : Nat)
    (h : zRn X d kc ks MX12_says 2 [some (.ref p0), some (.ref p1), some (.int 0)] [] w Q) :
    zRn X d kc ks MX12_says 0 [some (.ref p0), some (.ref p1), none] [] w Q := by
  refine z_iconst 0 dX12_says_0 rfl ?_
  refine z_istore_n (i := 2) dX12_says_1 rfl (by decide) rfl ?_
  exact h
set_option maxRecDepth 100000 in
set_option maxHeartbeats 4000000 in
theorem bX12_says_2 {X : zX} {d kc ks : Nat} {w : zW} {Q : Option Value → zW → Prop} (v0 : Nat) (v1 : Nat) (v2 : Int32)
    (h : 5 < d ∧ ∃ x1, zTL v1 = some x1 ∧ (if x1 ≤ v2 then (Q none w) else (∃ r3, zfR w v0 11 27 = some r3 ∧ (∃ x4, zfI w v0 11 28 = some x4 ∧ (5 < d ∧ ∃ x5, zTC v1 v2 = some x5 ∧ (∃ w7, zsI w r3 x4 x5 = some w7 ∧ (∃ x8, zfI w7 v0 11 28 = some x8 ∧ (∃ w9, zsF w7 v0 11 28 (.int (x8 + 1)) = some w9 ∧ (zRn X d kc ks MX12_says 2 [some (.ref v0), some (.ref v1), some (.int (v2 + 1))] [] w9 Q))))))))) :
    zRn X d kc ks MX12_says 2 [some (.ref v0), some (.ref v1), some (.int v2)] [] w Q := by
  refine z_iload_n v2 dX12_says_2 rfl rfl ?_
  refine z_aload_n v1 dX12_says_3 rfl rfl ?_
  obtain ⟨hd0, x1, e, h⟩ := h
  refine zq_len mt_X12_153 dX12_says_4 (Nat.le_of_ble_eq_true rfl) hd0 e ?_
  refine z_icmp_ge 40 dX12_says_7 rfl (fun hc => ?_) (fun hc => ?_)
  · rw [if_pos hc] at h
    exact z_vreturn dX12_says_40 rfl h
  · rw [if_neg hc] at h
    refine z_aload_n v0 dX12_says_10 rfl rfl ?_
    obtain ⟨r3, e, h⟩ := h
    refine zq_fR f_X12_59 dX12_says_11 e ?_
    refine z_aload_n v0 dX12_says_14 rfl rfl ?_
    obtain ⟨x4, e, h⟩ := h
    refine zq_fI f_X12_205 dX12_says_15 e ?_
    refine z_aload_n v1 dX12_says_18 rfl rfl ?_
    refine z_iload_n v2 dX12_says_19 rfl rfl ?_
    obtain ⟨hd0, x5, e, h⟩ := h
    refine zq_chr mt_X12_159 dX12_says_20 (Nat.le_of_ble_eq_true rfl) hd0 e ?_
    obtain ⟨w7, e, h⟩ := h
    refine zq_sI dX12_says_23 e ?_
    refine z_aload_n v0 dX12_says_24 rfl rfl ?_
    refine z_dup dX12_says_25 rfl ?_
    obtain ⟨x8, e, h⟩ := h
    refine zq_fI f_X12_205 dX12_says_26 e ?_
    refine z_iconst 1 dX12_says_29 rfl ?_
    refine z_iadd dX12_says_30 ?_
    obtain ⟨w9, e, h⟩ := h
    refine zq_sF f_X12_205 dX12_says_31 (fun _ => rfl) (fun _ => rfl) e ?_
    refine z_iinc (i := 2) v2 (v2 + 1) dX12_says_34 rfl rfl (by decide) rfl ?_
    refine z_goto 2 dX12_says_37 rfl ?_
    exact h
theorem eX12_says {X : zX} {d kc ks : Nat} {w : zW} {Q : Option Value → zW → Prop} (p0 : Nat) (p1 : Nat) (h : zRn X d kc ks MX12_says 0 [some (.ref p0), some (.ref p1), none] [] w Q) : zEv X d kc ks MX12_says [.ref p0, .ref p1] w Q :=
  zEv.of (by decide) (Nat.le_of_ble_eq_true rfl) (Or.inr (by simp [Value.category])) h
set_option maxRecDepth 100000 in
set_option maxHeartbeats 4000000 in
theorem bX12_saysDigit_0 {X : zX} {d kc ks : Nat} {w : zW} {Q : Option Value → zW → Prop} (p0 : Nat) (a1 : Int32)
    (h : ∃ r1, zfR w p0 11 27 = some r1 ∧ (∃ x2, zfI w p0 11 28 = some x2 ∧ (∃ w3, zsI w r1 x2 ((48 : Int32) + a1) = some w3 ∧ (∃ x4, zfI w3 p0 11 28 = some x4 ∧ (∃ w5, zsF w3 p0 11 28 (.int (x4 + 1)) = some w5 ∧ (Q none w5)))))) :
    zRn X d kc ks MX12_saysDigit 0 [some (.ref p0), some (.int a1)] [] w Q := by
  refine z_aload_n p0 dX12_saysDigit_0 rfl rfl ?_
  obtain ⟨r1, e, h⟩ := h
  refine zq_fR f_X12_59 dX12_saysDigit_1 e ?_
  refine z_aload_n p0 dX12_saysDigit_4 rfl rfl ?_
  obtain ⟨x2, e, h⟩ := h
  refine zq_fI f_X12_205 dX12_saysDigit_5 e ?_
  refine z_bipush 48 dX12_saysDigit_8 rfl ?_
  refine z_iload_n a1 dX12_saysDigit_10 rfl rfl ?_
  refine z_iadd dX12_saysDigit_11 ?_
  obtain ⟨w3, e, h⟩ := h
  refine zq_sI dX12_saysDigit_12 e ?_
  refine z_aload_n p0 dX12_saysDigit_13 rfl rfl ?_
  refine z_dup dX12_saysDigit_14 rfl ?_
  obtain ⟨x4, e, h⟩ := h
  refine zq_fI f_X12_205 dX12_saysDigit_15 e ?_
  refine z_iconst 1 dX12_saysDigit_18 rfl ?_
  refine z_iadd dX12_saysDigit_19 ?_
  obtain ⟨w5, e, h⟩ := h
  refine zq_sF f_X12_205 dX12_saysDigit_20 (fun _ => rfl) (fun _ => rfl) e ?_
  exact z_vreturn dX12_saysDigit_23 rfl h
theorem eX12_saysDigit {X : zX} {d kc ks : Nat} {w : zW} {Q : Option Value → zW → Prop} (p0 : Nat) (a1 : Int32) (h : zRn X d kc ks MX12_saysDigit 0 [some (.ref p0), some (.int a1)] [] w Q) : zEv X d kc ks MX12_saysDigit [.ref p0, .int a1] w Q :=
  zEv.of (by decide) (Nat.le_of_ble_eq_true rfl) (Or.inr (by simp [Value.category])) h
set_option maxRecDepth 100000 in
set_option maxHeartbeats 4000000 in
theorem bX12_octet_0 {X : zX} {d kc ks : Nat} {w : zW} {Q : Option Value → zW → Prop} (p0 : Nat) (a1 : Int32)
    (h : ∃ x1, zfI w p0 11 28 = some x1 ∧ (zCallI X d MX12_in [.long ((a1 : Int32).toInt64), .long 0, .long ((x1 - 1 : Int32).toInt64)] w (fun x3 w2 => if x3 = 0 then (Q (some (.int (-1))) w2) else (∃ r4, zfR w2 p0 11 27 = some r4 ∧ (∃ x5, zaI w2 r4 a1 = some x5 ∧ (Q (some (.int x5)) w2)))))) :
    zRn X d kc ks MX12_octet 0 [some (.ref p0), some (.int a1)] [] w Q := by
  refine z_iload_n a1 dX12_octet_0 rfl rfl ?_
  refine z_i2l dX12_octet_1 ?_
  refine z_lconst 0 dX12_octet_2 rfl ?_
  refine z_aload_n p0 dX12_octet_3 rfl rfl ?_
  obtain ⟨x1, e, h⟩ := h
  refine zq_fI f_X12_205 dX12_octet_4 e ?_
  refine z_iconst 1 dX12_octet_7 rfl ?_
  refine z_isub dX12_octet_8 ?_
  refine z_i2l dX12_octet_9 ?_
  refine zq_SI (N := MX12_in) (As := [.long ((a1 : Int32).toInt64), .long 0, .long ((x1 - 1 : Int32).toInt64)]) m_X12_64 dX12_octet_10 rfl rfl (Nat.le_of_ble_eq_true rfl) h (fun x3 w2 h => ?_)
  refine z_if_eq 25 dX12_octet_13 rfl (fun hc => ?_) (fun hc => ?_)
  · rw [if_pos hc] at h
    refine z_iconst (-1) dX12_octet_25 rfl ?_
    exact z_ireturn .int dX12_octet_26 rfl rfl h
  · rw [if_neg hc] at h
    refine z_aload_n p0 dX12_octet_16 rfl rfl ?_
    obtain ⟨r4, e, h⟩ := h
    refine zq_fR f_X12_59 dX12_octet_17 e ?_
    refine z_iload_n a1 dX12_octet_20 rfl rfl ?_
    obtain ⟨x5, e, h⟩ := h
    refine zq_aI dX12_octet_21 e ?_
    refine z_goto 26 dX12_octet_22 rfl ?_
    exact z_ireturn .int dX12_octet_26 rfl rfl h
theorem eX12_octet {X : zX} {d kc ks : Nat} {w : zW} {Q : Option Value → zW → Prop} (p0 : Nat) (a1 : Int32) (h : zRn X d kc ks MX12_octet 0 [some (.ref p0), some (.int a1)] [] w Q) : zEv X d kc ks MX12_octet [.ref p0, .int a1] w Q :=
  zEv.of (by decide) (Nat.le_of_ble_eq_true rfl) (Or.inr (by simp [Value.category])) h
