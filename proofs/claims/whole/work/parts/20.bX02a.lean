set_option maxRecDepth 100000 in
set_option maxHeartbeats 4000000 in
theorem bX2_init_0 {X : zX} {d kc ks : Nat} {w : zW} {Q : Option Value → zW → Prop} (p0 : Nat)
    (h : 0 < d ∧ ((2048 = nI 2048 ∧ 2048 ≤ 100000 ∧ w.length < zBig ∧ 1 ≤ kc ∧ 2048 ≤ ks) ∧ (∃ w2, zsF (w ++ [zI 2048 (fun _ => 0)]) p0 2 0 (.ref w.length) = some w2 ∧ (Q none w2)))) :
    zRn X d kc ks MX2_init 0 [some (.ref p0)] [] w Q := by
  refine z_aload_n p0 dX2_init_0 rfl rfl ?_
  refine z_objInit g_259 g_127 g_128 dX2_init_1 (Nat.le_of_ble_eq_true rfl) h.1 ?_
  have h := h.2
  refine z_aload_n p0 dX2_init_4 rfl rfl ?_
  refine z_sipush 2048 dX2_init_5 rfl ?_
  refine zq_newa (N := 2048) g_149 dX2_init_8 h.1 ?_
  have h := h.2
  obtain ⟨w2, e, h⟩ := h
  refine zq_sFf f_X2_9 rfl dX2_init_10 (fun _ => rfl) (fun _ => rfl) e ?_
  exact z_vreturn dX2_init_13 rfl h
theorem eX2_init {X : zX} {d kc ks : Nat} {w : zW} {Q : Option Value → zW → Prop} (p0 : Nat) (h : zRn X d kc ks MX2_init 0 [some (.ref p0)] [] w Q) : zEv X d kc ks MX2_init [.ref p0] w Q :=
  zEv.of (by decide) (Nat.le_of_ble_eq_true rfl) (Or.inr (by simp [Value.category])) h
set_option maxRecDepth 100000 in
set_option maxHeartbeats 4000000 in
theorem bX2_extreme_0 {X : zX} {d kc ks : Nat} {w : zW} {Q : Option Value → zW → Prop} (p0 : Nat) (p1 : Nat) (a2 : Int32)
    (h : zIs w p0 2 ∧ zCallV X d MX2_measure [.ref p0, .ref p1, .int a2] w (fun w1 => zIs w1 p0 2 ∧ zCallI X d MX2_pick [.ref p0, .ref p1, .int 0, .int (-1), .int a2] w1 (fun x3 w2 => zIs w2 p0 2 ∧ zCallI X d MX2_worth [.ref p0, .ref p1, .int 0, .int (-1), .int x3] w2 (fun x5 w4 => Q (some (.int x5)) w4)))) :
    zRn X d kc ks MX2_extreme 0 [some (.ref p0), some (.ref p1), some (.int a2)] [] w Q := by
  refine z_aload_n p0 dX2_extreme_0 rfl rfl ?_
  refine z_aload_n p1 dX2_extreme_1 rfl rfl ?_
  refine z_iload_n a2 dX2_extreme_2 rfl rfl ?_
  refine zq_VV (N := MX2_measure) (As := [.ref p1, .int a2]) m_X2_15 dX2_extreme_3 rfl rfl (Nat.le_of_ble_eq_true rfl) h (fun w1 h => ?_)
  refine z_aload_n p0 dX2_extreme_6 rfl rfl ?_
  refine z_aload_n p1 dX2_extreme_7 rfl rfl ?_
  refine z_iconst 0 dX2_extreme_8 rfl ?_
  refine z_iconst (-1) dX2_extreme_9 rfl ?_
  refine z_aload_n p0 dX2_extreme_10 rfl rfl ?_
  refine z_aload_n p1 dX2_extreme_11 rfl rfl ?_
  refine z_iconst 0 dX2_extreme_12 rfl ?_
  refine z_iconst (-1) dX2_extreme_13 rfl ?_
  refine z_iload_n a2 dX2_extreme_14 rfl rfl ?_
  refine zq_VI (N := MX2_pick) (As := [.ref p1, .int 0, .int (-1), .int a2]) m_X2_19 dX2_extreme_15 rfl rfl (Nat.le_of_ble_eq_true rfl) h (fun x3 w2 h => ?_)
  refine zq_VI (N := MX2_worth) (As := [.ref p1, .int 0, .int (-1), .int x3]) m_X2_23 dX2_extreme_18 rfl rfl (Nat.le_of_ble_eq_true rfl) h (fun x5 w4 h => ?_)
  exact z_ireturn .int dX2_extreme_21 rfl rfl h
theorem eX2_extreme {X : zX} {d kc ks : Nat} {w : zW} {Q : Option Value → zW → Prop} (p0 : Nat) (p1 : Nat) (a2 : Int32) (h : zRn X d kc ks MX2_extreme 0 [some (.ref p0), some (.ref p1), some (.int a2)] [] w Q) : zEv X d kc ks MX2_extreme [.ref p0, .ref p1, .int a2] w Q :=
  zEv.of (by decide) (Nat.le_of_ble_eq_true rfl) (Or.inr (by simp [Value.category])) h
set_option maxRecDepth 100000 in
set_option maxHeartbeats 4000000 in
theorem bX2_measure_0 {X : zX} {d kc ks : Nat} {w : zW} {Q : Option Value → zW → Prop} (p0 : Nat) (p1 : Nat) (a2 : Int32)
    (h : zIs w p1 5 ∧ zCallI X d MX5_all [.ref p1] w (fun x2 w1 => zRn X d kc ks MX2_measure 5 [some (.ref p0), some (.ref p1), some (.int a2), some (.int x2), none, none] [] w1 Q)) :
    zRn X d kc ks MX2_measure 0 [some (.ref p0), some (.ref p1), some (.int a2), none, none, none] [] w Q := by
  refine z_aload_n p1 dX2_measure_0 rfl rfl ?_
  refine zq_VI (N := MX5_all) (As := []) m_X2_33 dX2_measure_1 rfl rfl (Nat.le_of_ble_eq_true rfl) h (fun x2 w1 h => ?_)
  refine z_istore_n (i := 3) dX2_measure_4 rfl (by decide) rfl ?_
  exact h
set_option maxRecDepth 100000 in
set_option maxHeartbeats 4000000 in
theorem bX2_measure_5 {X : zX} {d kc ks : Nat} {w : zW} {Q : Option Value → zW → Prop} (v0 : Nat) (v1 : Nat) (v2 : Int32) (v3 : Int32)
    (h : if v3 ≤ 0 then (Q none w) else (zIs w v1 5 ∧ zCallI X d MX5_isIdeal [.ref v1, .int v3] w (fun x2 w1 => zRn X d kc ks MX2_measure 19 [some (.ref v0), some (.ref v1), some (.int v2), some (.int v3), some (.int x2), some (.int 0)] [] w1 Q))) :
    zRn X d kc ks MX2_measure 5 [some (.ref v0), some (.ref v1), some (.int v2), some (.int v3), none, none] [] w Q := by
  refine z_iload_n v3 dX2_measure_5 rfl rfl ?_
  refine z_if_le 84 dX2_measure_6 rfl (fun hc => ?_) (fun hc => ?_)
  · rw [if_pos hc] at h
    exact z_vreturn dX2_measure_84 rfl h
  · rw [if_neg hc] at h
    refine z_aload_n v1 dX2_measure_9 rfl rfl ?_
    refine z_iload_n v3 dX2_measure_10 rfl rfl ?_
    refine zq_VI (N := MX5_isIdeal) (As := [.int v3]) m_X2_36 dX2_measure_11 rfl rfl (Nat.le_of_ble_eq_true rfl) h (fun x2 w1 h => ?_)
    refine z_istore (i := 4) dX2_measure_14 (by decide) rfl ?_
    refine z_iconst 0 dX2_measure_16 rfl ?_
    refine z_istore (i := 5) dX2_measure_17 (by decide) rfl ?_
    exact h
set_option maxRecDepth 100000 in
set_option maxHeartbeats 4000000 in
theorem bX2_measure_19 {X : zX} {d kc ks : Nat} {w : zW} {Q : Option Value → zW → Prop} (v0 : Nat) (v1 : Nat) (v2 : Int32) (v3 : Int32) (v4 : Int32) (v5 : Int32)
    (h : if v4 = 0 then (zRn X d kc ks MX2_measure 78 [some (.ref v0), some (.ref v1), some (.int v2), some (.int v3), none, none] [] w Q) else (zIs w v1 5 ∧ zCallI X d MX5_size [.ref v1] w (fun x2 w1 => if x2 ≤ v5 then (zRn X d kc ks MX2_measure 78 [some (.ref v0), some (.ref v1), some (.int v2), some (.int v3), none, none] [] w1 Q) else (if ((v3 >>> (v5 &&& 31)) &&& 1) = 1 then (∃ r3, zfR w1 v0 2 0 = some r3 ∧ (zIs w1 v0 2 ∧ zCallI X d MX2_pick [.ref v0, .ref v1, .int v3, .int v5, .int v2] w1 (fun x5 w4 => zIs w4 v0 2 ∧ zCallI X d MX2_worth [.ref v0, .ref v1, .int v3, .int v5, .int x5] w4 (fun x7 w6 => ∃ w8, zsI w6 r3 ((v3 * 8) + v5) x7 = some w8 ∧ (zRn X d kc ks MX2_measure 72 [some (.ref v0), some (.ref v1), some (.int v2), some (.int v3), some (.int v4), some (.int v5)] [] w8 Q))))) else (zRn X d kc ks MX2_measure 72 [some (.ref v0), some (.ref v1), some (.int v2), some (.int v3), some (.int v4), some (.int v5)] [] w1 Q))))) :
    zRn X d kc ks MX2_measure 19 [some (.ref v0), some (.ref v1), some (.int v2), some (.int v3), some (.int v4), some (.int v5)] [] w Q := by
  refine z_iload v4 dX2_measure_19 rfl ?_
  refine z_if_eq 78 dX2_measure_21 rfl (fun hc => ?_) (fun hc => ?_)
  · rw [if_pos hc] at h
    exact zRn.weak h (zLe_of [true, true, true, true, false, false] (And.intro rfl (And.intro rfl (And.intro rfl (And.intro rfl (And.intro rfl (And.intro rfl (trivial))))))))
  · rw [if_neg hc] at h
    refine z_iload v5 dX2_measure_24 rfl ?_
    refine z_aload_n v1 dX2_measure_26 rfl rfl ?_
    refine zq_VI (N := MX5_size) (As := []) m_X2_27 dX2_measure_27 rfl rfl (Nat.le_of_ble_eq_true rfl) h (fun x2 w1 h => ?_)
    refine z_icmp_ge 78 dX2_measure_30 rfl (fun hc => ?_) (fun hc => ?_)
    · rw [if_pos hc] at h
      exact zRn.weak h (zLe_of [true, true, true, true, false, false] (And.intro rfl (And.intro rfl (And.intro rfl (And.intro rfl (And.intro rfl (And.intro rfl (trivial))))))))
    · rw [if_neg hc] at h
      refine z_iload_n v3 dX2_measure_33 rfl rfl ?_
      refine z_iload v5 dX2_measure_34 rfl ?_
      refine z_ishr dX2_measure_36 ?_
      refine z_iconst 1 dX2_measure_37 rfl ?_
      refine z_iand dX2_measure_38 ?_
      refine z_iconst 1 dX2_measure_39 rfl ?_
      refine z_icmp_ne 72 dX2_measure_40 rfl (fun hc => ?_) (fun hc => ?_)
      · rw [if_neg hc] at h
        exact h
      · rw [if_pos hc] at h
        refine z_aload_n v0 dX2_measure_43 rfl rfl ?_
        obtain ⟨r3, e, h⟩ := h
        refine zq_fR f_X2_9 dX2_measure_44 e ?_
        refine z_iload_n v3 dX2_measure_47 rfl rfl ?_
        refine z_bipush 8 dX2_measure_48 rfl ?_
        refine z_imul dX2_measure_50 ?_
        refine z_iload v5 dX2_measure_51 rfl ?_
        refine z_iadd dX2_measure_53 ?_
        refine z_aload_n v0 dX2_measure_54 rfl rfl ?_
        refine z_aload_n v1 dX2_measure_55 rfl rfl ?_
        refine z_iload_n v3 dX2_measure_56 rfl rfl ?_
        refine z_iload v5 dX2_measure_57 rfl ?_
        refine z_aload_n v0 dX2_measure_59 rfl rfl ?_
        refine z_aload_n v1 dX2_measure_60 rfl rfl ?_
        refine z_iload_n v3 dX2_measure_61 rfl rfl ?_
        refine z_iload v5 dX2_measure_62 rfl ?_
        refine z_iload_n v2 dX2_measure_64 rfl rfl ?_
        refine zq_VI (N := MX2_pick) (As := [.ref v1, .int v3, .int v5, .int v2]) m_X2_19 dX2_measure_65 rfl rfl (Nat.le_of_ble_eq_true rfl) h (fun x5 w4 h => ?_)
        refine zq_VI (N := MX2_worth) (As := [.ref v1, .int v3, .int v5, .int x5]) m_X2_23 dX2_measure_68 rfl rfl (Nat.le_of_ble_eq_true rfl) h (fun x7 w6 h => ?_)
        obtain ⟨w8, e, h⟩ := h
        refine zq_sI dX2_measure_71 e ?_
        exact h
set_option maxRecDepth 100000 in
set_option maxHeartbeats 4000000 in
theorem bX2_measure_72 {X : zX} {d kc ks : Nat} {w : zW} {Q : Option Value → zW → Prop} (v0 : Nat) (v1 : Nat) (v2 : Int32) (v3 : Int32) (v4 : Int32) (v5 : Int32)
    (h : zRn X d kc ks MX2_measure 19 [some (.ref v0), some (.ref v1), some (.int v2), some (.int v3), some (.int v4), some (.int (v5 + 1))] [] w Q) :
    zRn X d kc ks MX2_measure 72 [some (.ref v0), some (.ref v1), some (.int v2), some (.int v3), some (.int v4), some (.int v5)] [] w Q := by
  refine z_iinc (i := 5) v5 (v5 + 1) dX2_measure_72 rfl rfl (by decide) rfl ?_
  refine z_goto 19 dX2_measure_75 rfl ?_
  exact h
set_option maxRecDepth 100000 in
set_option maxHeartbeats 4000000 in
theorem bX2_measure_78 {X : zX} {d kc ks : Nat} {w : zW} {Q : Option Value → zW → Prop} (v0 : Nat) (v1 : Nat) (v2 : Int32) (v3 : Int32)
    (h : zRn X d kc ks MX2_measure 5 [some (.ref v0), some (.ref v1), some (.int v2), some (.int (v3 - 1)), none, none] [] w Q) :
    zRn X d kc ks MX2_measure 78 [some (.ref v0), some (.ref v1), some (.int v2), some (.int v3), none, none] [] w Q := by
  refine z_iinc (i := 3) v3 (v3 - 1) dX2_measure_78 rfl (zdec _) (by decide) rfl ?_
  refine z_goto 5 dX2_measure_81 rfl ?_
  exact h
theorem eX2_measure {X : zX} {d kc ks : Nat} {w : zW} {Q : Option Value → zW → Prop} (p0 : Nat) (p1 : Nat) (a2 : Int32) (h : zRn X d kc ks MX2_measure 0 [some (.ref p0), some (.ref p1), some (.int a2), none, none, none] [] w Q) : zEv X d kc ks MX2_measure [.ref p0, .ref p1, .int a2] w Q :=
  zEv.of (by decide) (Nat.le_of_ble_eq_true rfl) (Or.inr (by simp [Value.category])) h
set_option maxRecDepth 100000 in
set_option maxHeartbeats 4000000 in
theorem bX2_pick_0 {X : zX} {d kc ks : Nat} {w : zW} {Q : Option Value → zW → Prop} (p0 : Nat) (p1 : Nat) (a2 : Int32) (a3 : Int32) (a4 : Int32)
    (h : zRn X d kc ks MX2_pick 9 [some (.ref p0), some (.ref p1), some (.int a2), some (.int a3), some (.int a4), some (.int (-1)), some (.int 0), some (.int 0), none] [] w Q) :
    zRn X d kc ks MX2_pick 0 [some (.ref p0), some (.ref p1), some (.int a2), some (.int a3), some (.int a4), none, none, none, none] [] w Q := by
  refine z_iconst (-1) dX2_pick_0 rfl ?_
  refine z_istore (i := 5) dX2_pick_1 (by decide) rfl ?_
  refine z_iconst 0 dX2_pick_3 rfl ?_
  refine z_istore (i := 6) dX2_pick_4 (by decide) rfl ?_
  refine z_iconst 0 dX2_pick_6 rfl ?_
  refine z_istore (i := 7) dX2_pick_7 (by decide) rfl ?_
  exact h
set_option maxRecDepth 100000 in
set_option maxHeartbeats 4000000 in
theorem bX2_pick_9 {X : zX} {d kc ks : Nat} {w : zW} {Q : Option Value → zW → Prop} (v0 : Nat) (v1 : Nat) (v2 : Int32) (v3 : Int32) (v4 : Int32) (v5 : Int32) (v6 : Int32) (v7 : Int32)
    (h : zIs w v1 5 ∧ zCallI X d MX5_size [.ref v1] w (fun x2 w1 => if x2 ≤ v7 then (Q (some (.int v5)) w1) else (zIs w1 v1 5 ∧ zCallI X d MX5_canFollow [.ref v1, .int v2, .int v7] w1 (fun x4 w3 => if x4 = 0 then (zRn X d kc ks MX2_pick 75 [some (.ref v0), some (.ref v1), some (.int v2), some (.int v3), some (.int v4), some (.int v5), some (.int v6), some (.int v7), none] [] w3 Q) else (zIs w3 v0 2 ∧ zCallI X d MX2_worth [.ref v0, .ref v1, .int v2, .int v3, .int v7] w3 (fun x6 w5 => if v5 = (-1) then (zRn X d kc ks MX2_pick 67 [some (.ref v0), some (.ref v1), some (.int v2), some (.int v3), some (.int v4), none, none, some (.int v7), some (.int x6)] [] w5 Q) else (if v4 = 0 then (if v6 ≤ x6 then (zRn X d kc ks MX2_pick 75 [some (.ref v0), some (.ref v1), some (.int v2), some (.int v3), some (.int v4), some (.int v5), some (.int v6), some (.int v7), none] [] w5 Q) else (zRn X d kc ks MX2_pick 67 [some (.ref v0), some (.ref v1), some (.int v2), some (.int v3), some (.int v4), none, none, some (.int v7), some (.int x6)] [] w5 Q)) else (if x6 ≤ v6 then (zRn X d kc ks MX2_pick 75 [some (.ref v0), some (.ref v1), some (.int v2), some (.int v3), some (.int v4), some (.int v5), some (.int v6), some (.int v7), none] [] w5 Q) else (zRn X d kc ks MX2_pick 67 [some (.ref v0), some (.ref v1), some (.int v2), some (.int v3), some (.int v4), none, none, some (.int v7), some (.int x6)] [] w5 Q))))))))) :
    zRn X d kc ks MX2_pick 9 [some (.ref v0), some (.ref v1), some (.int v2), some (.int v3), some (.int v4), some (.int v5), some (.int v6), some (.int v7), none] [] w Q := by
  refine z_iload v7 dX2_pick_9 rfl ?_
  refine z_aload_n v1 dX2_pick_11 rfl rfl ?_
  refine zq_VI (N := MX5_size) (As := []) m_X2_27 dX2_pick_12 rfl rfl (Nat.le_of_ble_eq_true rfl) h (fun x2 w1 h => ?_)
  refine z_icmp_ge 81 dX2_pick_15 rfl (fun hc => ?_) (fun hc => ?_)
  · rw [if_pos hc] at h
    refine z_iload v5 dX2_pick_81 rfl ?_
    exact z_ireturn .int dX2_pick_83 rfl rfl h
  · rw [if_neg hc] at h
    refine z_aload_n v1 dX2_pick_18 rfl rfl ?_
    refine z_iload_n v2 dX2_pick_19 rfl rfl ?_
    refine z_iload v7 dX2_pick_20 rfl ?_
    refine zq_VI (N := MX5_canFollow) (As := [.int v2, .int v7]) m_X2_40 dX2_pick_22 rfl rfl (Nat.le_of_ble_eq_true rfl) h (fun x4 w3 h => ?_)
    refine z_if_eq 75 dX2_pick_25 rfl (fun hc => ?_) (fun hc => ?_)
    · rw [if_pos hc] at h
      exact h
    · rw [if_neg hc] at h
      refine z_aload_n v0 dX2_pick_28 rfl rfl ?_
      refine z_aload_n v1 dX2_pick_29 rfl rfl ?_
      refine z_iload_n v2 dX2_pick_30 rfl rfl ?_
      refine z_iload_n v3 dX2_pick_31 rfl rfl ?_
      refine z_iload v7 dX2_pick_32 rfl ?_
      refine zq_VI (N := MX2_worth) (As := [.ref v1, .int v2, .int v3, .int v7]) m_X2_23 dX2_pick_34 rfl rfl (Nat.le_of_ble_eq_true rfl) h (fun x6 w5 h => ?_)
      refine z_istore (i := 8) dX2_pick_37 (by decide) rfl ?_
      refine z_iload v5 dX2_pick_39 rfl ?_
      refine z_iconst (-1) dX2_pick_41 rfl ?_
      refine z_icmp_eq 67 dX2_pick_42 rfl (fun hc => ?_) (fun hc => ?_)
      · rw [if_pos hc] at h
        exact zRn.weak h (zLe_of [true, true, true, true, true, false, false, true, true] (And.intro rfl (And.intro rfl (And.intro rfl (And.intro rfl (And.intro rfl (And.intro rfl (And.intro rfl (And.intro rfl (And.intro rfl (trivial)))))))))))
      · rw [if_neg hc] at h
        refine z_iload v4 dX2_pick_45 rfl ?_
        refine z_if_eq 60 dX2_pick_47 rfl (fun hc => ?_) (fun hc => ?_)
        · rw [if_pos hc] at h
          refine z_iload x6 dX2_pick_60 rfl ?_
          refine z_iload v6 dX2_pick_62 rfl ?_
          refine z_icmp_ge 75 dX2_pick_64 rfl (fun hc => ?_) (fun hc => ?_)
          · rw [if_pos hc] at h
            exact zRn.weak h (zLe_of [true, true, true, true, true, true, true, true, false] (And.intro rfl (And.intro rfl (And.intro rfl (And.intro rfl (And.intro rfl (And.intro rfl (And.intro rfl (And.intro rfl (And.intro rfl (trivial)))))))))))
          · rw [if_neg hc] at h
            exact zRn.weak h (zLe_of [true, true, true, true, true, false, false, true, true] (And.intro rfl (And.intro rfl (And.intro rfl (And.intro rfl (And.intro rfl (And.intro rfl (And.intro rfl (And.intro rfl (And.intro rfl (trivial)))))))))))
        · rw [if_neg hc] at h
          refine z_iload x6 dX2_pick_50 rfl ?_
          refine z_iload v6 dX2_pick_52 rfl ?_
          refine z_icmp_le 75 dX2_pick_54 rfl (fun hc => ?_) (fun hc => ?_)
          · rw [if_pos hc] at h
            exact zRn.weak h (zLe_of [true, true, true, true, true, true, true, true, false] (And.intro rfl (And.intro rfl (And.intro rfl (And.intro rfl (And.intro rfl (And.intro rfl (And.intro rfl (And.intro rfl (And.intro rfl (trivial)))))))))))
          · rw [if_neg hc] at h
            refine z_goto 67 dX2_pick_57 rfl ?_
            exact zRn.weak h (zLe_of [true, true, true, true, true, false, false, true, true] (And.intro rfl (And.intro rfl (And.intro rfl (And.intro rfl (And.intro rfl (And.intro rfl (And.intro rfl (And.intro rfl (And.intro rfl (trivial)))))))))))
set_option maxRecDepth 100000 in
set_option maxHeartbeats 4000000 in
theorem bX2_pick_67 {X : zX} {d kc ks : Nat} {w : zW} {Q : Option Value → zW → Prop} (v0 : Nat) (v1 : Nat) (v2 : Int32) (v3 : Int32) (v4 : Int32) (v7 : Int32) (v8 : Int32)
    (h : zRn X d kc ks MX2_pick 75 [some (.ref v0), some (.ref v1), some (.int v2), some (.int v3), some (.int v4), some (.int v7), some (.int v8), some (.int v7), none] [] w Q) :
    zRn X d kc ks MX2_pick 67 [some (.ref v0), some (.ref v1), some (.int v2), some (.int v3), some (.int v4), none, none, some (.int v7), some (.int v8)] [] w Q := by
  refine z_iload v7 dX2_pick_67 rfl ?_
  refine z_istore (i := 5) dX2_pick_69 (by decide) rfl ?_
  refine z_iload v8 dX2_pick_71 rfl ?_
  refine z_istore (i := 6) dX2_pick_73 (by decide) rfl ?_
  exact zRn.weak h (zLe_of [true, true, true, true, true, true, true, true, false] (And.intro rfl (And.intro rfl (And.intro rfl (And.intro rfl (And.intro rfl (And.intro rfl (And.intro rfl (And.intro rfl (And.intro rfl (trivial)))))))))))
set_option maxRecDepth 100000 in
set_option maxHeartbeats 4000000 in
theorem bX2_pick_75 {X : zX} {d kc ks : Nat} {w : zW} {Q : Option Value → zW → Prop} (v0 : Nat) (v1 : Nat) (v2 : Int32) (v3 : Int32) (v4 : Int32) (v5 : Int32) (v6 : Int32) (v7 : Int32)
    (h : zRn X d kc ks MX2_pick 9 [some (.ref v0), some (.ref v1), some (.int v2), some (.int v3), some (.int v4), some (.int v5), some (.int v6), some (.int (v7 + 1)), none] [] w Q) :
    zRn X d kc ks MX2_pick 75 [some (.ref v0), some (.ref v1), some (.int v2), some (.int v3), some (.int v4), some (.int v5), some (.int v6), some (.int v7), none] [] w Q := by
  refine z_iinc (i := 7) v7 (v7 + 1) dX2_pick_75 rfl rfl (by decide) rfl ?_
  refine z_goto 9 dX2_pick_78 rfl ?_
  exact h
theorem eX2_pick {X : zX} {d kc ks : Nat} {w : zW} {Q : Option Value → zW → Prop} (p0 : Nat) (p1 : Nat) (a2 : Int32) (a3 : Int32) (a4 : Int32) (h : zRn X d kc ks MX2_pick 0 [some (.ref p0), some (.ref p1), some (.int a2), some (.int a3), some (.int a4), none, none, none, none] [] w Q) : zEv X d kc ks MX2_pick [.ref p0, .ref p1, .int a2, .int a3, .int a4] w Q :=
  zEv.of (by decide) (Nat.le_of_ble_eq_true rfl) (Or.inr (by simp [Value.category])) h
set_option maxRecDepth 100000 in
set_option maxHeartbeats 4000000 in
theorem bX2_worth_0 {X : zX} {d kc ks : Nat} {w : zW} {Q : Option Value → zW → Prop} (p0 : Nat) (p1 : Nat) (a2 : Int32) (a3 : Int32) (a4 : Int32)
    (h : zIs w p1 5 ∧ zCallI X d MX5_has [.ref p1, .int a4] w (fun x2 w1 => if x2 = 0 then (Q (some (.int 0)) w1) else (if a3 = (-1) then (zRn X d kc ks MX2_worth 26 [some (.ref p0), none, some (.int a2), none, some (.int a4), none] [] w1 Q) else (zIs w1 p1 5 ∧ zCallI X d MX5_under [.ref p1, .int a3, .int a4] w1 (fun x4 w3 => if x4 = 0 then (zRn X d kc ks MX2_worth 31 [some (.ref p0), none, some (.int a2), none, some (.int a4), none] [.int 1] w3 Q) else (zRn X d kc ks MX2_worth 26 [some (.ref p0), none, some (.int a2), none, some (.int a4), none] [] w3 Q)))))) :
    zRn X d kc ks MX2_worth 0 [some (.ref p0), some (.ref p1), some (.int a2), some (.int a3), some (.int a4), none] [] w Q := by
  refine z_aload_n p1 dX2_worth_0 rfl rfl ?_
  refine z_iload a4 dX2_worth_1 rfl ?_
  refine zq_VI (N := MX5_has) (As := [.int a4]) m_X2_44 dX2_worth_3 rfl rfl (Nat.le_of_ble_eq_true rfl) h (fun x2 w1 h => ?_)
  refine z_if_ne 11 dX2_worth_6 rfl (fun hc => ?_) (fun hc => ?_)
  · rw [if_neg hc] at h
    refine z_iload_n a3 dX2_worth_11 rfl rfl ?_
    refine z_iconst (-1) dX2_worth_12 rfl ?_
    refine z_icmp_eq 26 dX2_worth_13 rfl (fun hc => ?_) (fun hc => ?_)
    · rw [if_pos hc] at h
      exact zRn.weak h (zLe_of [true, false, true, false, true, true] (And.intro rfl (And.intro rfl (And.intro rfl (And.intro rfl (And.intro rfl (And.intro rfl (trivial))))))))
    · rw [if_neg hc] at h
      refine z_aload_n p1 dX2_worth_16 rfl rfl ?_
      refine z_iload_n a3 dX2_worth_17 rfl rfl ?_
      refine z_iload a4 dX2_worth_18 rfl ?_
      refine zq_VI (N := MX5_under) (As := [.int a3, .int a4]) m_X2_47 dX2_worth_20 rfl rfl (Nat.le_of_ble_eq_true rfl) h (fun x4 w3 h => ?_)
      refine z_if_eq 30 dX2_worth_23 rfl (fun hc => ?_) (fun hc => ?_)
      · rw [if_pos hc] at h
        refine z_iconst 1 dX2_worth_30 rfl ?_
        exact zRn.weak h (zLe_of [true, false, true, false, true, true] (And.intro rfl (And.intro rfl (And.intro rfl (And.intro rfl (And.intro rfl (And.intro rfl (trivial))))))))
      · rw [if_neg hc] at h
        exact zRn.weak h (zLe_of [true, false, true, false, true, true] (And.intro rfl (And.intro rfl (And.intro rfl (And.intro rfl (And.intro rfl (And.intro rfl (trivial))))))))
  · rw [if_pos hc] at h
    refine z_iconst 0 dX2_worth_9 rfl ?_
    exact z_ireturn .int dX2_worth_10 rfl rfl h
set_option maxRecDepth 100000 in
set_option maxHeartbeats 4000000 in
theorem bX2_worth_26 {X : zX} {d kc ks : Nat} {w : zW} {Q : Option Value → zW → Prop} (v0 : Nat) (v2 : Int32) (v4 : Int32)
    (h : zRn X d kc ks MX2_worth 31 [some (.ref v0), none, some (.int v2), none, some (.int v4), none] [.int 0] w Q) :
    zRn X d kc ks MX2_worth 26 [some (.ref v0), none, some (.int v2), none, some (.int v4), none] [] w Q := by
  refine z_iconst 0 dX2_worth_26 rfl ?_
  refine z_goto 31 dX2_worth_27 rfl ?_
  exact h
set_option maxRecDepth 100000 in
set_option maxHeartbeats 4000000 in
theorem bX2_worth_31 {X : zX} {d kc ks : Nat} {w : zW} {Q : Option Value → zW → Prop} (v0 : Nat) (v2 : Int32) (v4 : Int32) (u0 : Int32)
    (h : ∃ r1, zfR w v0 2 0 = some r1 ∧ (∃ x2, zaI w r1 ((((v2 ||| ((1 : Int32) <<< (v4 &&& 31))) &&& 255) * 8) + v4) = some x2 ∧ (Q (some (.int (u0 + x2))) w))) :
    zRn X d kc ks MX2_worth 31 [some (.ref v0), none, some (.int v2), none, some (.int v4), none] [.int u0] w Q := by
  refine z_istore (i := 5) dX2_worth_31 (by decide) rfl ?_
  refine z_iload u0 dX2_worth_33 rfl ?_
  refine z_aload_n v0 dX2_worth_35 rfl rfl ?_
  obtain ⟨r1, e, h⟩ := h
  refine zq_fR f_X2_9 dX2_worth_36 e ?_
  refine z_iload_n v2 dX2_worth_39 rfl rfl ?_
  refine z_iconst 1 dX2_worth_40 rfl ?_
  refine z_iload v4 dX2_worth_41 rfl ?_
  refine z_ishl dX2_worth_43 ?_
  refine z_ior dX2_worth_44 ?_
  refine z_sipush 255 dX2_worth_45 rfl ?_
  refine z_iand dX2_worth_48 ?_
  refine z_bipush 8 dX2_worth_49 rfl ?_
  refine z_imul dX2_worth_51 ?_
  refine z_iload v4 dX2_worth_52 rfl ?_
  refine z_iadd dX2_worth_54 ?_
  obtain ⟨x2, e, h⟩ := h
  refine zq_aI dX2_worth_55 e ?_
  refine z_iadd dX2_worth_56 ?_
  exact z_ireturn .int dX2_worth_57 rfl rfl h
theorem eX2_worth {X : zX} {d kc ks : Nat} {w : zW} {Q : Option Value → zW → Prop} (p0 : Nat) (p1 : Nat) (a2 : Int32) (a3 : Int32) (a4 : Int32) (h : zRn X d kc ks MX2_worth 0 [some (.ref p0), some (.ref p1), some (.int a2), some (.int a3), some (.int a4), none] [] w Q) : zEv X d kc ks MX2_worth [.ref p0, .ref p1, .int a2, .int a3, .int a4] w Q :=
  zEv.of (by decide) (Nat.le_of_ble_eq_true rfl) (Or.inr (by simp [Value.category])) h
set_option maxRecDepth 100000 in
set_option maxHeartbeats 4000000 in
theorem bX2_thingAt_0 {X : zX} {d kc ks : Nat} {w : zW} {Q : Option Value → zW → Prop} (p0 : Nat) (p1 : Nat) (a2 : Int32) (a3 : Int32)
    (h : zIs w p0 2 ∧ zCallV X d MX2_measure [.ref p0, .ref p1, .int a2] w (fun w1 => zRn X d kc ks MX2_thingAt 15 [some (.ref p0), some (.ref p1), some (.int a2), some (.int a3), some (.int 0), some (.int (-1)), some (.int 0)] [] w1 Q)) :
    zRn X d kc ks MX2_thingAt 0 [some (.ref p0), some (.ref p1), some (.int a2), some (.int a3), none, none, none] [] w Q := by
  refine z_aload_n p0 dX2_thingAt_0 rfl rfl ?_
  refine z_aload_n p1 dX2_thingAt_1 rfl rfl ?_
  refine z_iload_n a2 dX2_thingAt_2 rfl rfl ?_
  refine zq_VV (N := MX2_measure) (As := [.ref p1, .int a2]) m_X2_15 dX2_thingAt_3 rfl rfl (Nat.le_of_ble_eq_true rfl) h (fun w1 h => ?_)
  refine z_iconst 0 dX2_thingAt_6 rfl ?_
  refine z_istore (i := 4) dX2_thingAt_7 (by decide) rfl ?_
  refine z_iconst (-1) dX2_thingAt_9 rfl ?_
  refine z_istore (i := 5) dX2_thingAt_10 (by decide) rfl ?_
  refine z_iconst 0 dX2_thingAt_12 rfl ?_
  refine z_istore (i := 6) dX2_thingAt_13 (by decide) rfl ?_
  exact h
set_option maxRecDepth 100000 in
set_option maxHeartbeats 4000000 in
theorem bX2_thingAt_15 {X : zX} {d kc ks : Nat} {w : zW} {Q : Option Value → zW → Prop} (v0 : Nat) (v1 : Nat) (v2 : Int32) (v3 : Int32) (v4 : Int32) (v5 : Int32) (v6 : Int32)
    (h : if v3 < v6 then (Q (some (.int v5)) w) else (zIs w v1 5 ∧ zCallI X d MX5_size [.ref v1] w (fun x2 w1 => if x2 ≤ v6 then (Q (some (.int v5)) w1) else (zIs w1 v0 2 ∧ zCallI X d MX2_pick [.ref v0, .ref v1, .int v4, .int v5, .int v2] w1 (fun x4 w3 => zRn X d kc ks MX2_thingAt 15 [some (.ref v0), some (.ref v1), some (.int v2), some (.int v3), some (.int (v4 ||| ((1 : Int32) <<< (x4 &&& 31)))), some (.int x4), some (.int (v6 + 1))] [] w3 Q))))) :
    zRn X d kc ks MX2_thingAt 15 [some (.ref v0), some (.ref v1), some (.int v2), some (.int v3), some (.int v4), some (.int v5), some (.int v6)] [] w Q := by
  refine z_iload v6 dX2_thingAt_15 rfl ?_
  refine z_iload_n v3 dX2_thingAt_17 rfl rfl ?_
  refine z_icmp_gt 57 dX2_thingAt_18 rfl (fun hc => ?_) (fun hc => ?_)
  · rw [if_pos hc] at h
    refine z_iload v5 dX2_thingAt_57 rfl ?_
    exact z_ireturn .int dX2_thingAt_59 rfl rfl h
  · rw [if_neg hc] at h
    refine z_iload v6 dX2_thingAt_21 rfl ?_
    refine z_aload_n v1 dX2_thingAt_23 rfl rfl ?_
    refine zq_VI (N := MX5_size) (As := []) m_X2_27 dX2_thingAt_24 rfl rfl (Nat.le_of_ble_eq_true rfl) h (fun x2 w1 h => ?_)
    refine z_icmp_ge 57 dX2_thingAt_27 rfl (fun hc => ?_) (fun hc => ?_)
    · rw [if_pos hc] at h
      refine z_iload v5 dX2_thingAt_57 rfl ?_
      exact z_ireturn .int dX2_thingAt_59 rfl rfl h
    · rw [if_neg hc] at h
      refine z_aload_n v0 dX2_thingAt_30 rfl rfl ?_
      refine z_aload_n v1 dX2_thingAt_31 rfl rfl ?_
      refine z_iload v4 dX2_thingAt_32 rfl ?_
      refine z_iload v5 dX2_thingAt_34 rfl ?_
      refine z_iload_n v2 dX2_thingAt_36 rfl rfl ?_
      refine zq_VI (N := MX2_pick) (As := [.ref v1, .int v4, .int v5, .int v2]) m_X2_19 dX2_thingAt_37 rfl rfl (Nat.le_of_ble_eq_true rfl) h (fun x4 w3 h => ?_)
      refine z_istore (i := 5) dX2_thingAt_40 (by decide) rfl ?_
      refine z_iload v4 dX2_thingAt_42 rfl ?_
      refine z_iconst 1 dX2_thingAt_44 rfl ?_
      refine z_iload x4 dX2_thingAt_45 rfl ?_
      refine z_ishl dX2_thingAt_47 ?_
      refine z_ior dX2_thingAt_48 ?_
      refine z_istore (i := 4) dX2_thingAt_49 (by decide) rfl ?_
      refine z_iinc (i := 6) v6 (v6 + 1) dX2_thingAt_51 rfl rfl (by decide) rfl ?_
      refine z_goto 15 dX2_thingAt_54 rfl ?_
      exact h
theorem eX2_thingAt {X : zX} {d kc ks : Nat} {w : zW} {Q : Option Value → zW → Prop} (p0 : Nat) (p1 : Nat) (a2 : Int32) (a3 : Int32) (h : zRn X d kc ks MX2_thingAt 0 [some (.ref p0), some (.ref p1), some (.int a2), some (.int a3), none, none, none] [] w Q) : zEv X d kc ks MX2_thingAt [.ref p0, .ref p1, .int a2, .int a3] w Q :=
  zEv.of (by decide) (Nat.le_of_ble_eq_true rfl) (Or.inr (by simp [Value.category])) h
