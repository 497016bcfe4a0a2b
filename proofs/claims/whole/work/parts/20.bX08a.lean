set_option maxRecDepth 100000 in
set_option maxHeartbeats 4000000 in
theorem bX8_init_0 {X : zX} {d kc ks : Nat} {w : zW} {Q : Option Value → zW → Prop} (p0 : Nat)
    (h : 0 < d ∧ ((48 = nI 48 ∧ 48 ≤ 100000 ∧ w.length < zBig ∧ 1 ≤ kc ∧ 48 ≤ ks) ∧ (∃ w2, zsF (w ++ [zI 48 (fun _ => 0)]) p0 8 0 (.ref w.length) = some w2 ∧ (Q none w2)))) :
    zRn X d kc ks MX8_init 0 [some (.ref p0)] [] w Q := by
  refine z_aload_n p0 dX8_init_0 rfl rfl ?_
  refine z_objInit g_141 g_127 g_128 dX8_init_1 (Nat.le_of_ble_eq_true rfl) h.1 ?_
  have h := h.2
  refine z_aload_n p0 dX8_init_4 rfl rfl ?_
  refine z_bipush 48 dX8_init_5 rfl ?_
  refine zq_newa (N := 48) g_149 dX8_init_7 h.1 ?_
  have h := h.2
  obtain ⟨w2, e, h⟩ := h
  refine zq_sFf f_X8_9 rfl dX8_init_9 (fun _ => rfl) (fun _ => rfl) e ?_
  exact z_vreturn dX8_init_12 rfl h
theorem eX8_init {X : zX} {d kc ks : Nat} {w : zW} {Q : Option Value → zW → Prop} (p0 : Nat) (h : zRn X d kc ks MX8_init 0 [some (.ref p0)] [] w Q) : zEv X d kc ks MX8_init [.ref p0] w Q :=
  zEv.of (by decide) (Nat.le_of_ble_eq_true rfl) (Or.inr (by simp [Value.category])) h
set_option maxRecDepth 100000 in
set_option maxHeartbeats 4000000 in
theorem bX8_clear_0 {X : zX} {d kc ks : Nat} {w : zW} {Q : Option Value → zW → Prop} (p0 : Nat)
    (h : ∃ w1, zsF w p0 8 1 (.int 0) = some w1 ∧ (Q none w1)) :
    zRn X d kc ks MX8_clear 0 [some (.ref p0)] [] w Q := by
  refine z_aload_n p0 dX8_clear_0 rfl rfl ?_
  refine z_iconst 0 dX8_clear_1 rfl ?_
  obtain ⟨w1, e, h⟩ := h
  refine zq_sF f_X8_15 dX8_clear_2 (fun _ => rfl) (fun _ => rfl) e ?_
  exact z_vreturn dX8_clear_5 rfl h
theorem eX8_clear {X : zX} {d kc ks : Nat} {w : zW} {Q : Option Value → zW → Prop} (p0 : Nat) (h : zRn X d kc ks MX8_clear 0 [some (.ref p0)] [] w Q) : zEv X d kc ks MX8_clear [.ref p0] w Q :=
  zEv.of (by decide) (Nat.le_of_ble_eq_true rfl) (Or.inr (by simp [Value.category])) h
set_option maxRecDepth 100000 in
set_option maxHeartbeats 4000000 in
theorem bX8_size_0 {X : zX} {d kc ks : Nat} {w : zW} {Q : Option Value → zW → Prop} (p0 : Nat)
    (h : ∃ x1, zfI w p0 8 1 = some x1 ∧ (Q (some (.int x1)) w)) :
    zRn X d kc ks MX8_size 0 [some (.ref p0)] [] w Q := by
  refine z_aload_n p0 dX8_size_0 rfl rfl ?_
  obtain ⟨x1, e, h⟩ := h
  refine zq_fI f_X8_15 dX8_size_1 e ?_
  exact z_ireturn .int dX8_size_4 rfl rfl h
theorem eX8_size {X : zX} {d kc ks : Nat} {w : zW} {Q : Option Value → zW → Prop} (p0 : Nat) (h : zRn X d kc ks MX8_size 0 [some (.ref p0)] [] w Q) : zEv X d kc ks MX8_size [.ref p0] w Q :=
  zEv.of (by decide) (Nat.le_of_ble_eq_true rfl) (Or.inr (by simp [Value.category])) h
set_option maxRecDepth 100000 in
set_option maxHeartbeats 4000000 in
theorem bX8_open_0 {X : zX} {d kc ks : Nat} {w : zW} {Q : Option Value → zW → Prop} (p0 : Nat)
    (h : ∃ x1, zfI w p0 8 1 = some x1 ∧ (if 6 ≤ x1 then (zRn X d kc ks MX8_open 19 [some (.ref p0)] [] w Q) else (∃ x2, zfI w p0 8 1 = some x2 ∧ (∃ w3, zsF w p0 8 1 (.int (x2 + 1)) = some w3 ∧ (zRn X d kc ks MX8_open 19 [some (.ref p0)] [] w3 Q))))) :
    zRn X d kc ks MX8_open 0 [some (.ref p0)] [] w Q := by
  refine z_aload_n p0 dX8_open_0 rfl rfl ?_
  obtain ⟨x1, e, h⟩ := h
  refine zq_fI f_X8_15 dX8_open_1 e ?_
  refine z_bipush 6 dX8_open_4 rfl ?_
  refine z_icmp_ge 19 dX8_open_6 rfl (fun hc => ?_) (fun hc => ?_)
  · rw [if_pos hc] at h
    exact h
  · rw [if_neg hc] at h
    refine z_aload_n p0 dX8_open_9 rfl rfl ?_
    refine z_dup dX8_open_10 rfl ?_
    obtain ⟨x2, e, h⟩ := h
    refine zq_fI f_X8_15 dX8_open_11 e ?_
    refine z_iconst 1 dX8_open_14 rfl ?_
    refine z_iadd dX8_open_15 ?_
    obtain ⟨w3, e, h⟩ := h
    refine zq_sF f_X8_15 dX8_open_16 (fun _ => rfl) (fun _ => rfl) e ?_
    exact h
set_option maxRecDepth 100000 in
set_option maxHeartbeats 4000000 in
theorem bX8_open_19 {X : zX} {d kc ks : Nat} {w : zW} {Q : Option Value → zW → Prop} (v0 : Nat)
    (h : ∃ x1, zfI w v0 8 1 = some x1 ∧ (Q (some (.int (x1 - 1))) w)) :
    zRn X d kc ks MX8_open 19 [some (.ref v0)] [] w Q := by
  refine z_aload_n v0 dX8_open_19 rfl rfl ?_
  obtain ⟨x1, e, h⟩ := h
  refine zq_fI f_X8_15 dX8_open_20 e ?_
  refine z_iconst 1 dX8_open_23 rfl ?_
  refine z_isub dX8_open_24 ?_
  exact z_ireturn .int dX8_open_25 rfl rfl h
theorem eX8_open {X : zX} {d kc ks : Nat} {w : zW} {Q : Option Value → zW → Prop} (p0 : Nat) (h : zRn X d kc ks MX8_open 0 [some (.ref p0)] [] w Q) : zEv X d kc ks MX8_open [.ref p0] w Q :=
  zEv.of (by decide) (Nat.le_of_ble_eq_true rfl) (Or.inr (by simp [Value.category])) h
set_option maxRecDepth 100000 in
set_option maxHeartbeats 4000000 in
theorem bX8_put_0 {X : zX} {d kc ks : Nat} {w : zW} {Q : Option Value → zW → Prop} (p0 : Nat) (a1 : Int32) (a2 : Int32) (a3 : Int32)
    (h : zCallI X d MX8_isPlace [.int a1, .int a2] w (fun x2 w1 => if x2 = 0 then (Q none w1) else (∃ r3, zfR w1 p0 8 0 = some r3 ∧ (∃ w4, zsI w1 r3 ((a1 * 8) + a2) a3 = some w4 ∧ (Q none w4))))) :
    zRn X d kc ks MX8_put 0 [some (.ref p0), some (.int a1), some (.int a2), some (.int a3)] [] w Q := by
  refine z_iload_n a1 dX8_put_0 rfl rfl ?_
  refine z_iload_n a2 dX8_put_1 rfl rfl ?_
  refine zq_SI (N := MX8_isPlace) (As := [.int a1, .int a2]) m_X8_19 dX8_put_2 rfl rfl (Nat.le_of_ble_eq_true rfl) h (fun x2 w1 h => ?_)
  refine z_if_eq 20 dX8_put_5 rfl (fun hc => ?_) (fun hc => ?_)
  · rw [if_pos hc] at h
    exact z_vreturn dX8_put_20 rfl h
  · rw [if_neg hc] at h
    refine z_aload_n p0 dX8_put_8 rfl rfl ?_
    obtain ⟨r3, e, h⟩ := h
    refine zq_fR f_X8_9 dX8_put_9 e ?_
    refine z_iload_n a1 dX8_put_12 rfl rfl ?_
    refine z_bipush 8 dX8_put_13 rfl ?_
    refine z_imul dX8_put_15 ?_
    refine z_iload_n a2 dX8_put_16 rfl rfl ?_
    refine z_iadd dX8_put_17 ?_
    refine z_iload_n a3 dX8_put_18 rfl rfl ?_
    obtain ⟨w4, e, h⟩ := h
    refine zq_sI dX8_put_19 e ?_
    exact z_vreturn dX8_put_20 rfl h
theorem eX8_put {X : zX} {d kc ks : Nat} {w : zW} {Q : Option Value → zW → Prop} (p0 : Nat) (a1 : Int32) (a2 : Int32) (a3 : Int32) (h : zRn X d kc ks MX8_put 0 [some (.ref p0), some (.int a1), some (.int a2), some (.int a3)] [] w Q) : zEv X d kc ks MX8_put [.ref p0, .int a1, .int a2, .int a3] w Q :=
  zEv.of (by decide) (Nat.le_of_ble_eq_true rfl) (Or.inr (by simp [Value.category])) h
set_option maxRecDepth 100000 in
set_option maxHeartbeats 4000000 in
theorem bX8_isPlace_0 {X : zX} {d kc ks : Nat} {w : zW} {Q : Option Value → zW → Prop} (a0 : Int32) (a1 : Int32)
    (h : if a0 < 0 then (Q (some (.int 0)) w) else (if 6 ≤ a0 then (Q (some (.int 0)) w) else (if a1 < 0 then (Q (some (.int 0)) w) else (if 8 ≤ a1 then (Q (some (.int 0)) w) else (Q (some (.int 1)) w))))) :
    zRn X d kc ks MX8_isPlace 0 [some (.int a0), some (.int a1)] [] w Q := by
  refine z_iload_n a0 dX8_isPlace_0 rfl rfl ?_
  refine z_if_lt 24 dX8_isPlace_1 rfl (fun hc => ?_) (fun hc => ?_)
  · rw [if_pos hc] at h
    refine z_iconst 0 dX8_isPlace_24 rfl ?_
    exact z_ireturn .boolean dX8_isPlace_25 rfl rfl h
  · rw [if_neg hc] at h
    refine z_iload_n a0 dX8_isPlace_4 rfl rfl ?_
    refine z_bipush 6 dX8_isPlace_5 rfl ?_
    refine z_icmp_ge 24 dX8_isPlace_7 rfl (fun hc => ?_) (fun hc => ?_)
    · rw [if_pos hc] at h
      refine z_iconst 0 dX8_isPlace_24 rfl ?_
      exact z_ireturn .boolean dX8_isPlace_25 rfl rfl h
    · rw [if_neg hc] at h
      refine z_iload_n a1 dX8_isPlace_10 rfl rfl ?_
      refine z_if_lt 24 dX8_isPlace_11 rfl (fun hc => ?_) (fun hc => ?_)
      · rw [if_pos hc] at h
        refine z_iconst 0 dX8_isPlace_24 rfl ?_
        exact z_ireturn .boolean dX8_isPlace_25 rfl rfl h
      · rw [if_neg hc] at h
        refine z_iload_n a1 dX8_isPlace_14 rfl rfl ?_
        refine z_bipush 8 dX8_isPlace_15 rfl ?_
        refine z_icmp_ge 24 dX8_isPlace_17 rfl (fun hc => ?_) (fun hc => ?_)
        · rw [if_pos hc] at h
          refine z_iconst 0 dX8_isPlace_24 rfl ?_
          exact z_ireturn .boolean dX8_isPlace_25 rfl rfl h
        · rw [if_neg hc] at h
          refine z_iconst 1 dX8_isPlace_20 rfl ?_
          refine z_goto 25 dX8_isPlace_21 rfl ?_
          exact z_ireturn .boolean dX8_isPlace_25 rfl rfl h
theorem eX8_isPlace {X : zX} {d kc ks : Nat} {w : zW} {Q : Option Value → zW → Prop} (a0 : Int32) (a1 : Int32) (h : zRn X d kc ks MX8_isPlace 0 [some (.int a0), some (.int a1)] [] w Q) : zEv X d kc ks MX8_isPlace [.int a0, .int a1] w Q :=
  zEv.of (by decide) (Nat.le_of_ble_eq_true rfl) (Or.inr (by simp [Value.category])) h
set_option maxRecDepth 100000 in
set_option maxHeartbeats 4000000 in
theorem bX8_sameAs_0 {X : zX} {d kc ks : Nat} {w : zW} {Q : Option Value → zW → Prop} (p0 : Nat) (p1 : Nat) (a2 : Int32)
    (h : ∃ x1, zfI w p0 8 1 = some x1 ∧ (∃ x2, zfI w p1 8 1 = some x2 ∧ (if x1 = x2 then (zRn X d kc ks MX8_sameAs 15 [some (.ref p0), some (.ref p1), some (.int a2), some (.int 0)] [] w Q) else (Q (some (.int 0)) w)))) :
    zRn X d kc ks MX8_sameAs 0 [some (.ref p0), some (.ref p1), some (.int a2), none] [] w Q := by
  refine z_aload_n p0 dX8_sameAs_0 rfl rfl ?_
  obtain ⟨x1, e, h⟩ := h
  refine zq_fI f_X8_15 dX8_sameAs_1 e ?_
  refine z_aload_n p1 dX8_sameAs_4 rfl rfl ?_
  obtain ⟨x2, e, h⟩ := h
  refine zq_fI f_X8_15 dX8_sameAs_5 e ?_
  refine z_icmp_eq 13 dX8_sameAs_8 rfl (fun hc => ?_) (fun hc => ?_)
  · rw [if_pos hc] at h
    refine z_iconst 0 dX8_sameAs_13 rfl ?_
    refine z_istore_n (i := 3) dX8_sameAs_14 rfl (by decide) rfl ?_
    exact h
  · rw [if_neg hc] at h
    refine z_iconst 0 dX8_sameAs_11 rfl ?_
    exact z_ireturn .boolean dX8_sameAs_12 rfl rfl h
set_option maxRecDepth 100000 in
set_option maxHeartbeats 4000000 in
theorem bX8_sameAs_15 {X : zX} {d kc ks : Nat} {w : zW} {Q : Option Value → zW → Prop} (v0 : Nat) (v1 : Nat) (v2 : Int32) (v3 : Int32)
    (h : ∃ x1, zfI w v0 8 1 = some x1 ∧ (if x1 ≤ v3 then (Q (some (.int 1)) w) else (zIs w v0 8 ∧ zCallI X d MX8_sameRow [.ref v0, .int v3, .ref v1, .int v3, .int v2] w (fun x3 w2 => if x3 = 0 then (Q (some (.int 0)) w2) else (zRn X d kc ks MX8_sameAs 15 [some (.ref v0), some (.ref v1), some (.int v2), some (.int (v3 + 1))] [] w2 Q))))) :
    zRn X d kc ks MX8_sameAs 15 [some (.ref v0), some (.ref v1), some (.int v2), some (.int v3)] [] w Q := by
  refine z_iload_n v3 dX8_sameAs_15 rfl rfl ?_
  refine z_aload_n v0 dX8_sameAs_16 rfl rfl ?_
  obtain ⟨x1, e, h⟩ := h
  refine zq_fI f_X8_15 dX8_sameAs_17 e ?_
  refine z_icmp_ge 42 dX8_sameAs_20 rfl (fun hc => ?_) (fun hc => ?_)
  · rw [if_pos hc] at h
    refine z_iconst 1 dX8_sameAs_42 rfl ?_
    exact z_ireturn .boolean dX8_sameAs_43 rfl rfl h
  · rw [if_neg hc] at h
    refine z_aload_n v0 dX8_sameAs_23 rfl rfl ?_
    refine z_iload_n v3 dX8_sameAs_24 rfl rfl ?_
    refine z_aload_n v1 dX8_sameAs_25 rfl rfl ?_
    refine z_iload_n v3 dX8_sameAs_26 rfl rfl ?_
    refine z_iload_n v2 dX8_sameAs_27 rfl rfl ?_
    refine zq_VI (N := MX8_sameRow) (As := [.int v3, .ref v1, .int v3, .int v2]) m_X8_31 dX8_sameAs_28 rfl rfl (Nat.le_of_ble_eq_true rfl) h (fun x3 w2 h => ?_)
    refine z_if_ne 36 dX8_sameAs_31 rfl (fun hc => ?_) (fun hc => ?_)
    · rw [if_neg hc] at h
      refine z_iinc (i := 3) v3 (v3 + 1) dX8_sameAs_36 rfl rfl (by decide) rfl ?_
      refine z_goto 15 dX8_sameAs_39 rfl ?_
      exact h
    · rw [if_pos hc] at h
      refine z_iconst 0 dX8_sameAs_34 rfl ?_
      exact z_ireturn .boolean dX8_sameAs_35 rfl rfl h
theorem eX8_sameAs {X : zX} {d kc ks : Nat} {w : zW} {Q : Option Value → zW → Prop} (p0 : Nat) (p1 : Nat) (a2 : Int32) (h : zRn X d kc ks MX8_sameAs 0 [some (.ref p0), some (.ref p1), some (.int a2), none] [] w Q) : zEv X d kc ks MX8_sameAs [.ref p0, .ref p1, .int a2] w Q :=
  zEv.of (by decide) (Nat.le_of_ble_eq_true rfl) (Or.inr (by simp [Value.category])) h
set_option maxRecDepth 100000 in
set_option maxHeartbeats 4000000 in
theorem bX8_sameRow_0 {X : zX} {d kc ks : Nat} {w : zW} {Q : Option Value → zW → Prop} (p0 : Nat) (a1 : Int32) (p2 : Nat) (a3 : Int32) (a4 : Int32)
    (h : zRn X d kc ks MX8_sameRow 3 [some (.ref p0), some (.int a1), some (.ref p2), some (.int a3), some (.int a4), some (.int 0)] [] w Q) :
    zRn X d kc ks MX8_sameRow 0 [some (.ref p0), some (.int a1), some (.ref p2), some (.int a3), some (.int a4), none] [] w Q := by
  refine z_iconst 0 dX8_sameRow_0 rfl ?_
  refine z_istore (i := 5) dX8_sameRow_1 (by decide) rfl ?_
  exact h
set_option maxRecDepth 100000 in
set_option maxHeartbeats 4000000 in
theorem bX8_sameRow_3 {X : zX} {d kc ks : Nat} {w : zW} {Q : Option Value → zW → Prop} (v0 : Nat) (v1 : Int32) (v2 : Nat) (v3 : Int32) (v4 : Int32) (v5 : Int32)
    (h : if v4 ≤ v5 then (Q (some (.int 1)) w) else (zIs w v0 8 ∧ zCallI X d MX8_thingAt [.ref v0, .int v1, .int v5] w (fun x2 w1 => zIs w1 v2 8 ∧ zCallI X d MX8_thingAt [.ref v2, .int v3, .int v5] w1 (fun x4 w3 => if x2 = x4 then (zRn X d kc ks MX8_sameRow 3 [some (.ref v0), some (.int v1), some (.ref v2), some (.int v3), some (.int v4), some (.int (v5 + 1))] [] w3 Q) else (Q (some (.int 0)) w3))))) :
    zRn X d kc ks MX8_sameRow 3 [some (.ref v0), some (.int v1), some (.ref v2), some (.int v3), some (.int v4), some (.int v5)] [] w Q := by
  refine z_iload v5 dX8_sameRow_3 rfl ?_
  refine z_iload v4 dX8_sameRow_5 rfl ?_
  refine z_icmp_ge 35 dX8_sameRow_7 rfl (fun hc => ?_) (fun hc => ?_)
  · rw [if_pos hc] at h
    refine z_iconst 1 dX8_sameRow_35 rfl ?_
    exact z_ireturn .boolean dX8_sameRow_36 rfl rfl h
  · rw [if_neg hc] at h
    refine z_aload_n v0 dX8_sameRow_10 rfl rfl ?_
    refine z_iload_n v1 dX8_sameRow_11 rfl rfl ?_
    refine z_iload v5 dX8_sameRow_12 rfl ?_
    refine zq_VI (N := MX8_thingAt) (As := [.int v1, .int v5]) m_X8_23 dX8_sameRow_14 rfl rfl (Nat.le_of_ble_eq_true rfl) h (fun x2 w1 h => ?_)
    refine z_aload_n v2 dX8_sameRow_17 rfl rfl ?_
    refine z_iload_n v3 dX8_sameRow_18 rfl rfl ?_
    refine z_iload v5 dX8_sameRow_19 rfl ?_
    refine zq_VI (N := MX8_thingAt) (As := [.int v3, .int v5]) m_X8_23 dX8_sameRow_21 rfl rfl (Nat.le_of_ble_eq_true rfl) h (fun x4 w3 h => ?_)
    refine z_icmp_eq 29 dX8_sameRow_24 rfl (fun hc => ?_) (fun hc => ?_)
    · rw [if_pos hc] at h
      refine z_iinc (i := 5) v5 (v5 + 1) dX8_sameRow_29 rfl rfl (by decide) rfl ?_
      refine z_goto 3 dX8_sameRow_32 rfl ?_
      exact h
    · rw [if_neg hc] at h
      refine z_iconst 0 dX8_sameRow_27 rfl ?_
      exact z_ireturn .boolean dX8_sameRow_28 rfl rfl h
theorem eX8_sameRow {X : zX} {d kc ks : Nat} {w : zW} {Q : Option Value → zW → Prop} (p0 : Nat) (a1 : Int32) (p2 : Nat) (a3 : Int32) (a4 : Int32) (h : zRn X d kc ks MX8_sameRow 0 [some (.ref p0), some (.int a1), some (.ref p2), some (.int a3), some (.int a4), none] [] w Q) : zEv X d kc ks MX8_sameRow [.ref p0, .int a1, .ref p2, .int a3, .int a4] w Q :=
  zEv.of (by decide) (Nat.le_of_ble_eq_true rfl) (Or.inr (by simp [Value.category])) h
set_option maxRecDepth 100000 in
set_option maxHeartbeats 4000000 in
theorem bX8_thingAt_0 {X : zX} {d kc ks : Nat} {w : zW} {Q : Option Value → zW → Prop} (p0 : Nat) (a1 : Int32) (a2 : Int32)
    (h : zCallI X d MX8_isPlace [.int a1, .int a2] w (fun x2 w1 => if x2 = 0 then (Q (some (.int (-1))) w1) else (∃ r3, zfR w1 p0 8 0 = some r3 ∧ (∃ x4, zaI w1 r3 ((a1 * 8) + a2) = some x4 ∧ (Q (some (.int x4)) w1))))) :
    zRn X d kc ks MX8_thingAt 0 [some (.ref p0), some (.int a1), some (.int a2)] [] w Q := by
  refine z_iload_n a1 dX8_thingAt_0 rfl rfl ?_
  refine z_iload_n a2 dX8_thingAt_1 rfl rfl ?_
  refine zq_SI (N := MX8_isPlace) (As := [.int a1, .int a2]) m_X8_19 dX8_thingAt_2 rfl rfl (Nat.le_of_ble_eq_true rfl) h (fun x2 w1 h => ?_)
  refine z_if_eq 22 dX8_thingAt_5 rfl (fun hc => ?_) (fun hc => ?_)
  · rw [if_pos hc] at h
    refine z_iconst (-1) dX8_thingAt_22 rfl ?_
    exact z_ireturn .int dX8_thingAt_23 rfl rfl h
  · rw [if_neg hc] at h
    refine z_aload_n p0 dX8_thingAt_8 rfl rfl ?_
    obtain ⟨r3, e, h⟩ := h
    refine zq_fR f_X8_9 dX8_thingAt_9 e ?_
    refine z_iload_n a1 dX8_thingAt_12 rfl rfl ?_
    refine z_bipush 8 dX8_thingAt_13 rfl ?_
    refine z_imul dX8_thingAt_15 ?_
    refine z_iload_n a2 dX8_thingAt_16 rfl rfl ?_
    refine z_iadd dX8_thingAt_17 ?_
    obtain ⟨x4, e, h⟩ := h
    refine zq_aI dX8_thingAt_18 e ?_
    refine z_goto 23 dX8_thingAt_19 rfl ?_
    exact z_ireturn .int dX8_thingAt_23 rfl rfl h
theorem eX8_thingAt {X : zX} {d kc ks : Nat} {w : zW} {Q : Option Value → zW → Prop} (p0 : Nat) (a1 : Int32) (a2 : Int32) (h : zRn X d kc ks MX8_thingAt 0 [some (.ref p0), some (.int a1), some (.int a2)] [] w Q) : zEv X d kc ks MX8_thingAt [.ref p0, .int a1, .int a2] w Q :=
  zEv.of (by decide) (Nat.le_of_ble_eq_true rfl) (Or.inr (by simp [Value.category])) h
set_option maxRecDepth 100000 in
set_option maxHeartbeats 4000000 in
theorem bX8_copyFrom_0 {X : zX} {d kc ks : Nat} {w : zW} {Q : Option Value → zW → Prop} (p0 : Nat) (p1 : Nat)
    (h : ∃ x1, zfI w p1 8 1 = some x1 ∧ (∃ w2, zsF w p0 8 1 (.int x1) = some w2 ∧ (∃ r3, zfR w2 p1 8 0 = some r3 ∧ (∃ r4, zfR w2 p0 8 0 = some r4 ∧ (∃ r5, zfR w2 p0 8 0 = some r5 ∧ (∃ x6, zaL w2 r5 = some x6 ∧ (0 < d ∧ ∃ w7, zcp w2 r3 0 r4 0 x6 = some w7 ∧ (Q none w7)))))))) :
    zRn X d kc ks MX8_copyFrom 0 [some (.ref p0), some (.ref p1)] [] w Q := by
  refine z_aload_n p0 dX8_copyFrom_0 rfl rfl ?_
  refine z_aload_n p1 dX8_copyFrom_1 rfl rfl ?_
  obtain ⟨x1, e, h⟩ := h
  refine zq_fI f_X8_15 dX8_copyFrom_2 e ?_
  obtain ⟨w2, e, h⟩ := h
  refine zq_sF f_X8_15 dX8_copyFrom_5 (fun _ => rfl) (fun _ => rfl) e ?_
  refine z_aload_n p1 dX8_copyFrom_8 rfl rfl ?_
  obtain ⟨r3, e, h⟩ := h
  refine zq_fR f_X8_9 dX8_copyFrom_9 e ?_
  refine z_iconst 0 dX8_copyFrom_12 rfl ?_
  refine z_aload_n p0 dX8_copyFrom_13 rfl rfl ?_
  obtain ⟨r4, e, h⟩ := h
  refine zq_fR f_X8_9 dX8_copyFrom_14 e ?_
  refine z_iconst 0 dX8_copyFrom_17 rfl ?_
  refine z_aload_n p0 dX8_copyFrom_18 rfl rfl ?_
  obtain ⟨r5, e, h⟩ := h
  refine zq_fR f_X8_9 dX8_copyFrom_19 e ?_
  obtain ⟨x6, e, h⟩ := h
  refine zq_aL dX8_copyFrom_22 e ?_
  obtain ⟨hd0, w7, e, h⟩ := h
  refine zq_cp g_577 g_572 g_571 g_119 dX8_copyFrom_23 (Nat.le_of_ble_eq_true rfl) hd0 e ?_
  exact z_vreturn dX8_copyFrom_26 rfl h
theorem eX8_copyFrom {X : zX} {d kc ks : Nat} {w : zW} {Q : Option Value → zW → Prop} (p0 : Nat) (p1 : Nat) (h : zRn X d kc ks MX8_copyFrom 0 [some (.ref p0), some (.ref p1)] [] w Q) : zEv X d kc ks MX8_copyFrom [.ref p0, .ref p1] w Q :=
  zEv.of (by decide) (Nat.le_of_ble_eq_true rfl) (Or.inr (by simp [Value.category])) h
set_option maxRecDepth 100000 in
set_option maxHeartbeats 4000000 in
theorem bX8_has_0 {X : zX} {d kc ks : Nat} {w : zW} {Q : Option Value → zW → Prop} (p0 : Nat) (a1 : Int32)
    (h : if a1 < 0 then (Q (some (.int 0)) w) else (∃ x1, zfI w p0 8 1 = some x1 ∧ (if x1 ≤ a1 then (Q (some (.int 0)) w) else (Q (some (.int 1)) w)))) :
    zRn X d kc ks MX8_has 0 [some (.ref p0), some (.int a1)] [] w Q := by
  refine z_iload_n a1 dX8_has_0 rfl rfl ?_
  refine z_if_lt 16 dX8_has_1 rfl (fun hc => ?_) (fun hc => ?_)
  · rw [if_pos hc] at h
    refine z_iconst 0 dX8_has_16 rfl ?_
    exact z_ireturn .boolean dX8_has_17 rfl rfl h
  · rw [if_neg hc] at h
    refine z_iload_n a1 dX8_has_4 rfl rfl ?_
    refine z_aload_n p0 dX8_has_5 rfl rfl ?_
    obtain ⟨x1, e, h⟩ := h
    refine zq_fI f_X8_15 dX8_has_6 e ?_
    refine z_icmp_ge 16 dX8_has_9 rfl (fun hc => ?_) (fun hc => ?_)
    · rw [if_pos hc] at h
      refine z_iconst 0 dX8_has_16 rfl ?_
      exact z_ireturn .boolean dX8_has_17 rfl rfl h
    · rw [if_neg hc] at h
      refine z_iconst 1 dX8_has_12 rfl ?_
      refine z_goto 17 dX8_has_13 rfl ?_
      exact z_ireturn .boolean dX8_has_17 rfl rfl h
theorem eX8_has {X : zX} {d kc ks : Nat} {w : zW} {Q : Option Value → zW → Prop} (p0 : Nat) (a1 : Int32) (h : zRn X d kc ks MX8_has 0 [some (.ref p0), some (.int a1)] [] w Q) : zEv X d kc ks MX8_has [.ref p0, .int a1] w Q :=
  zEv.of (by decide) (Nat.le_of_ble_eq_true rfl) (Or.inr (by simp [Value.category])) h
set_option maxRecDepth 100000 in
set_option maxHeartbeats 4000000 in
theorem bX8_comesAhead_0 {X : zX} {d kc ks : Nat} {w : zW} {Q : Option Value → zW → Prop} (p0 : Nat) (a1 : Int32) (a2 : Int32) (a3 : Int32) (a4 : Int32)
    (h : zIs w p0 8 ∧ zCallI X d MX8_placeOf [.ref p0, .int a1, .int a2, .int a4] w (fun x2 w1 => zIs w1 p0 8 ∧ zCallI X d MX8_placeOf [.ref p0, .int a1, .int a3, .int a4] w1 (fun x4 w3 => if x4 ≤ x2 then (Q (some (.int 0)) w3) else (Q (some (.int 1)) w3)))) :
    zRn X d kc ks MX8_comesAhead 0 [some (.ref p0), some (.int a1), some (.int a2), some (.int a3), some (.int a4)] [] w Q := by
  refine z_aload_n p0 dX8_comesAhead_0 rfl rfl ?_
  refine z_iload_n a1 dX8_comesAhead_1 rfl rfl ?_
  refine z_iload_n a2 dX8_comesAhead_2 rfl rfl ?_
  refine z_iload a4 dX8_comesAhead_3 rfl ?_
  refine zq_VI (N := MX8_placeOf) (As := [.int a1, .int a2, .int a4]) m_X8_27 dX8_comesAhead_5 rfl rfl (Nat.le_of_ble_eq_true rfl) h (fun x2 w1 h => ?_)
  refine z_aload_n p0 dX8_comesAhead_8 rfl rfl ?_
  refine z_iload_n a1 dX8_comesAhead_9 rfl rfl ?_
  refine z_iload_n a3 dX8_comesAhead_10 rfl rfl ?_
  refine z_iload a4 dX8_comesAhead_11 rfl ?_
  refine zq_VI (N := MX8_placeOf) (As := [.int a1, .int a3, .int a4]) m_X8_27 dX8_comesAhead_13 rfl rfl (Nat.le_of_ble_eq_true rfl) h (fun x4 w3 h => ?_)
  refine z_icmp_ge 23 dX8_comesAhead_16 rfl (fun hc => ?_) (fun hc => ?_)
  · rw [if_pos hc] at h
    refine z_iconst 0 dX8_comesAhead_23 rfl ?_
    exact z_ireturn .boolean dX8_comesAhead_24 rfl rfl h
  · rw [if_neg hc] at h
    refine z_iconst 1 dX8_comesAhead_19 rfl ?_
    refine z_goto 24 dX8_comesAhead_20 rfl ?_
    exact z_ireturn .boolean dX8_comesAhead_24 rfl rfl h
theorem eX8_comesAhead {X : zX} {d kc ks : Nat} {w : zW} {Q : Option Value → zW → Prop} (p0 : Nat) (a1 : Int32) (a2 : Int32) (a3 : Int32) (a4 : Int32) (h : zRn X d kc ks MX8_comesAhead 0 [some (.ref p0), some (.int a1), some (.int a2), some (.int a3), some (.int a4)] [] w Q) : zEv X d kc ks MX8_comesAhead [.ref p0, .int a1, .int a2, .int a3, .int a4] w Q :=
  zEv.of (by decide) (Nat.le_of_ble_eq_true rfl) (Or.inr (by simp [Value.category])) h
set_option maxRecDepth 100000 in
set_option maxHeartbeats 4000000 in
theorem bX8_placeOf_0 {X : zX} {d kc ks : Nat} {w : zW} {Q : Option Value → zW → Prop} (p0 : Nat) (a1 : Int32) (a2 : Int32) (a3 : Int32)
    (h : zRn X d kc ks MX8_placeOf 3 [some (.ref p0), some (.int a1), some (.int a2), some (.int a3), some (.int 0)] [] w Q) :
    zRn X d kc ks MX8_placeOf 0 [some (.ref p0), some (.int a1), some (.int a2), some (.int a3), none] [] w Q := by
  refine z_iconst 0 dX8_placeOf_0 rfl ?_
  refine z_istore (i := 4) dX8_placeOf_1 (by decide) rfl ?_
  exact h
set_option maxRecDepth 100000 in
set_option maxHeartbeats 4000000 in
theorem bX8_placeOf_3 {X : zX} {d kc ks : Nat} {w : zW} {Q : Option Value → zW → Prop} (v0 : Nat) (v1 : Int32) (v2 : Int32) (v3 : Int32) (v4 : Int32)
    (h : if v3 ≤ v4 then (Q (some (.int (-1))) w) else (zIs w v0 8 ∧ zCallI X d MX8_thingAt [.ref v0, .int v1, .int v4] w (fun x2 w1 => if x2 = v2 then (Q (some (.int v4)) w1) else (zRn X d kc ks MX8_placeOf 3 [some (.ref v0), some (.int v1), some (.int v2), some (.int v3), some (.int (v4 + 1))] [] w1 Q)))) :
    zRn X d kc ks MX8_placeOf 3 [some (.ref v0), some (.int v1), some (.int v2), some (.int v3), some (.int v4)] [] w Q := by
  refine z_iload v4 dX8_placeOf_3 rfl ?_
  refine z_iload_n v3 dX8_placeOf_5 rfl rfl ?_
  refine z_icmp_ge 29 dX8_placeOf_6 rfl (fun hc => ?_) (fun hc => ?_)
  · rw [if_pos hc] at h
    refine z_iconst (-1) dX8_placeOf_29 rfl ?_
    exact z_ireturn .int dX8_placeOf_30 rfl rfl h
  · rw [if_neg hc] at h
    refine z_aload_n v0 dX8_placeOf_9 rfl rfl ?_
    refine z_iload_n v1 dX8_placeOf_10 rfl rfl ?_
    refine z_iload v4 dX8_placeOf_11 rfl ?_
    refine zq_VI (N := MX8_thingAt) (As := [.int v1, .int v4]) m_X8_23 dX8_placeOf_13 rfl rfl (Nat.le_of_ble_eq_true rfl) h (fun x2 w1 h => ?_)
    refine z_iload_n v2 dX8_placeOf_16 rfl rfl ?_
    refine z_icmp_ne 23 dX8_placeOf_17 rfl (fun hc => ?_) (fun hc => ?_)
    · rw [if_neg hc] at h
      refine z_iinc (i := 4) v4 (v4 + 1) dX8_placeOf_23 rfl rfl (by decide) rfl ?_
      refine z_goto 3 dX8_placeOf_26 rfl ?_
      exact h
    · rw [if_pos hc] at h
      refine z_iload v4 dX8_placeOf_20 rfl ?_
      exact z_ireturn .int dX8_placeOf_22 rfl rfl h
theorem eX8_placeOf {X : zX} {d kc ks : Nat} {w : zW} {Q : Option Value → zW → Prop} (p0 : Nat) (a1 : Int32) (a2 : Int32) (a3 : Int32) (h : zRn X d kc ks MX8_placeOf 0 [some (.ref p0), some (.int a1), some (.int a2), some (.int a3), none] [] w Q) : zEv X d kc ks MX8_placeOf [.ref p0, .int a1, .int a2, .int a3] w Q :=
  zEv.of (by decide) (Nat.le_of_ble_eq_true rfl) (Or.inr (by simp [Value.category])) h
set_option maxRecDepth 100000 in
set_option maxHeartbeats 4000000 in
theorem bX8_allUnlike_0 {X : zX} {d kc ks : Nat} {w : zW} {Q : Option Value → zW → Prop} (p0 : Nat) (a1 : Int32)
    (h : zRn X d kc ks MX8_allUnlike 2 [some (.ref p0), some (.int a1), some (.int 1), none] [] w Q) :
    zRn X d kc ks MX8_allUnlike 0 [some (.ref p0), some (.int a1), none, none] [] w Q := by
  refine z_iconst 1 dX8_allUnlike_0 rfl ?_
  refine z_istore_n (i := 2) dX8_allUnlike_1 rfl (by decide) rfl ?_
  exact h
set_option maxRecDepth 100000 in
set_option maxHeartbeats 4000000 in
theorem bX8_allUnlike_2 {X : zX} {d kc ks : Nat} {w : zW} {Q : Option Value → zW → Prop} (v0 : Nat) (v1 : Int32) (v2 : Int32)
    (h : ∃ x1, zfI w v0 8 1 = some x1 ∧ (if x1 ≤ v2 then (Q (some (.int 1)) w) else (zRn X d kc ks MX8_allUnlike 12 [some (.ref v0), some (.int v1), some (.int v2), some (.int 0)] [] w Q))) :
    zRn X d kc ks MX8_allUnlike 2 [some (.ref v0), some (.int v1), some (.int v2), none] [] w Q := by
  refine z_iload_n v2 dX8_allUnlike_2 rfl rfl ?_
  refine z_aload_n v0 dX8_allUnlike_3 rfl rfl ?_
  obtain ⟨x1, e, h⟩ := h
  refine zq_fI f_X8_15 dX8_allUnlike_4 e ?_
  refine z_icmp_ge 42 dX8_allUnlike_7 rfl (fun hc => ?_) (fun hc => ?_)
  · rw [if_pos hc] at h
    refine z_iconst 1 dX8_allUnlike_42 rfl ?_
    exact z_ireturn .boolean dX8_allUnlike_43 rfl rfl h
  · rw [if_neg hc] at h
    refine z_iconst 0 dX8_allUnlike_10 rfl ?_
    refine z_istore_n (i := 3) dX8_allUnlike_11 rfl (by decide) rfl ?_
    exact h
set_option maxRecDepth 100000 in
set_option maxHeartbeats 4000000 in
theorem bX8_allUnlike_12 {X : zX} {d kc ks : Nat} {w : zW} {Q : Option Value → zW → Prop} (v0 : Nat) (v1 : Int32) (v2 : Int32) (v3 : Int32)
    (h : if v2 ≤ v3 then (zRn X d kc ks MX8_allUnlike 2 [some (.ref v0), some (.int v1), some (.int (v2 + 1)), none] [] w Q) else (zIs w v0 8 ∧ zCallI X d MX8_sameRow [.ref v0, .int v2, .ref v0, .int v3, .int v1] w (fun x2 w1 => if x2 = 0 then (zRn X d kc ks MX8_allUnlike 12 [some (.ref v0), some (.int v1), some (.int v2), some (.int (v3 + 1))] [] w1 Q) else (Q (some (.int 0)) w1)))) :
    zRn X d kc ks MX8_allUnlike 12 [some (.ref v0), some (.int v1), some (.int v2), some (.int v3)] [] w Q := by
  refine z_iload_n v3 dX8_allUnlike_12 rfl rfl ?_
  refine z_iload_n v2 dX8_allUnlike_13 rfl rfl ?_
  refine z_icmp_ge 36 dX8_allUnlike_14 rfl (fun hc => ?_) (fun hc => ?_)
  · rw [if_pos hc] at h
    refine z_iinc (i := 2) v2 (v2 + 1) dX8_allUnlike_36 rfl rfl (by decide) rfl ?_
    refine z_goto 2 dX8_allUnlike_39 rfl ?_
    exact zRn.weak h (zLe_of [true, true, true, false] (And.intro rfl (And.intro rfl (And.intro rfl (And.intro rfl (trivial))))))
  · rw [if_neg hc] at h
    refine z_aload_n v0 dX8_allUnlike_17 rfl rfl ?_
    refine z_iload_n v2 dX8_allUnlike_18 rfl rfl ?_
    refine z_aload_n v0 dX8_allUnlike_19 rfl rfl ?_
    refine z_iload_n v3 dX8_allUnlike_20 rfl rfl ?_
    refine z_iload_n v1 dX8_allUnlike_21 rfl rfl ?_
    refine zq_VI (N := MX8_sameRow) (As := [.int v2, .ref v0, .int v3, .int v1]) m_X8_31 dX8_allUnlike_22 rfl rfl (Nat.le_of_ble_eq_true rfl) h (fun x2 w1 h => ?_)
    refine z_if_eq 30 dX8_allUnlike_25 rfl (fun hc => ?_) (fun hc => ?_)
    · rw [if_pos hc] at h
      refine z_iinc (i := 3) v3 (v3 + 1) dX8_allUnlike_30 rfl rfl (by decide) rfl ?_
      refine z_goto 12 dX8_allUnlike_33 rfl ?_
      exact h
    · rw [if_neg hc] at h
      refine z_iconst 0 dX8_allUnlike_28 rfl ?_
      exact z_ireturn .boolean dX8_allUnlike_29 rfl rfl h
theorem eX8_allUnlike {X : zX} {d kc ks : Nat} {w : zW} {Q : Option Value → zW → Prop} (p0 : Nat) (a1 : Int32) (h : zRn X d kc ks MX8_allUnlike 0 [some (.ref p0), some (.int a1), none, none] [] w Q) : zEv X d kc ks MX8_allUnlike [.ref p0, .int a1] w Q :=
  zEv.of (by decide) (Nat.le_of_ble_eq_true rfl) (Or.inr (by simp [Value.category])) h
set_option maxRecDepth 100000 in
set_option maxHeartbeats 4000000 in
theorem bX8_remove_0 {X : zX} {d kc ks : Nat} {w : zW} {Q : Option Value → zW → Prop} (p0 : Nat) (a1 : Int32)
    (h : zIs w p0 8 ∧ zCallI X d MX8_has [.ref p0, .int a1] w (fun x2 w1 => if x2 = 0 then (Q none w1) else (zRn X d kc ks MX8_remove 13 [some (.ref p0), none, some (.int (a1 + 1)), none] [] w1 Q))) :
    zRn X d kc ks MX8_remove 0 [some (.ref p0), some (.int a1), none, none] [] w Q := by
  refine z_aload_n p0 dX8_remove_0 rfl rfl ?_
  refine z_iload_n a1 dX8_remove_1 rfl rfl ?_
  refine zq_VI (N := MX8_has) (As := [.int a1]) m_X8_41 dX8_remove_2 rfl rfl (Nat.le_of_ble_eq_true rfl) h (fun x2 w1 h => ?_)
  refine z_if_ne 9 dX8_remove_5 rfl (fun hc => ?_) (fun hc => ?_)
  · rw [if_neg hc] at h
    refine z_iload_n a1 dX8_remove_9 rfl rfl ?_
    refine z_iconst 1 dX8_remove_10 rfl ?_
    refine z_iadd dX8_remove_11 ?_
    refine z_istore_n (i := 2) dX8_remove_12 rfl (by decide) rfl ?_
    exact zRn.weak h (zLe_of [true, false, true, true] (And.intro rfl (And.intro rfl (And.intro rfl (And.intro rfl (trivial))))))
  · rw [if_pos hc] at h
    exact z_vreturn dX8_remove_8 rfl h
set_option maxRecDepth 100000 in
set_option maxHeartbeats 4000000 in
theorem bX8_remove_13 {X : zX} {d kc ks : Nat} {w : zW} {Q : Option Value → zW → Prop} (v0 : Nat) (v2 : Int32)
    (h : ∃ x1, zfI w v0 8 1 = some x1 ∧ (if x1 ≤ v2 then (∃ x2, zfI w v0 8 1 = some x2 ∧ (∃ w3, zsF w v0 8 1 (.int (x2 - 1)) = some w3 ∧ (Q none w3))) else (zRn X d kc ks MX8_remove 23 [some (.ref v0), none, some (.int v2), some (.int 0)] [] w Q))) :
    zRn X d kc ks MX8_remove 13 [some (.ref v0), none, some (.int v2), none] [] w Q := by
  refine z_iload_n v2 dX8_remove_13 rfl rfl ?_
  refine z_aload_n v0 dX8_remove_14 rfl rfl ?_
  obtain ⟨x1, e, h⟩ := h
  refine zq_fI f_X8_15 dX8_remove_15 e ?_
  refine z_icmp_ge 55 dX8_remove_18 rfl (fun hc => ?_) (fun hc => ?_)
  · rw [if_pos hc] at h
    refine z_aload_n v0 dX8_remove_55 rfl rfl ?_
    refine z_dup dX8_remove_56 rfl ?_
    obtain ⟨x2, e, h⟩ := h
    refine zq_fI f_X8_15 dX8_remove_57 e ?_
    refine z_iconst 1 dX8_remove_60 rfl ?_
    refine z_isub dX8_remove_61 ?_
    obtain ⟨w3, e, h⟩ := h
    refine zq_sF f_X8_15 dX8_remove_62 (fun _ => rfl) (fun _ => rfl) e ?_
    exact z_vreturn dX8_remove_65 rfl h
  · rw [if_neg hc] at h
    refine z_iconst 0 dX8_remove_21 rfl ?_
    refine z_istore_n (i := 3) dX8_remove_22 rfl (by decide) rfl ?_
    exact h
set_option maxRecDepth 100000 in
set_option maxHeartbeats 4000000 in
theorem bX8_remove_23 {X : zX} {d kc ks : Nat} {w : zW} {Q : Option Value → zW → Prop} (v0 : Nat) (v2 : Int32) (v3 : Int32)
    (h : if 8 ≤ v3 then (zRn X d kc ks MX8_remove 13 [some (.ref v0), none, some (.int (v2 + 1)), none] [] w Q) else (zIs w v0 8 ∧ zCallI X d MX8_thingAt [.ref v0, .int v2, .int v3] w (fun x2 w1 => zIs w1 v0 8 ∧ zCallV X d MX8_put [.ref v0, .int (v2 - 1), .int v3, .int x2] w1 (fun w3 => zRn X d kc ks MX8_remove 23 [some (.ref v0), none, some (.int v2), some (.int (v3 + 1))] [] w3 Q)))) :
    zRn X d kc ks MX8_remove 23 [some (.ref v0), none, some (.int v2), some (.int v3)] [] w Q := by
  refine z_iload_n v3 dX8_remove_23 rfl rfl ?_
  refine z_bipush 8 dX8_remove_24 rfl ?_
  refine z_icmp_ge 49 dX8_remove_26 rfl (fun hc => ?_) (fun hc => ?_)
  · rw [if_pos hc] at h
    refine z_iinc (i := 2) v2 (v2 + 1) dX8_remove_49 rfl rfl (by decide) rfl ?_
    refine z_goto 13 dX8_remove_52 rfl ?_
    exact zRn.weak h (zLe_of [true, true, true, false] (And.intro rfl (And.intro rfl (And.intro rfl (And.intro rfl (trivial))))))
  · rw [if_neg hc] at h
    refine z_aload_n v0 dX8_remove_29 rfl rfl ?_
    refine z_iload_n v2 dX8_remove_30 rfl rfl ?_
    refine z_iconst 1 dX8_remove_31 rfl ?_
    refine z_isub dX8_remove_32 ?_
    refine z_iload_n v3 dX8_remove_33 rfl rfl ?_
    refine z_aload_n v0 dX8_remove_34 rfl rfl ?_
    refine z_iload_n v2 dX8_remove_35 rfl rfl ?_
    refine z_iload_n v3 dX8_remove_36 rfl rfl ?_
    refine zq_VI (N := MX8_thingAt) (As := [.int v2, .int v3]) m_X8_23 dX8_remove_37 rfl rfl (Nat.le_of_ble_eq_true rfl) h (fun x2 w1 h => ?_)
    refine zq_VV (N := MX8_put) (As := [.int (v2 - 1), .int v3, .int x2]) m_X8_45 dX8_remove_40 rfl rfl (Nat.le_of_ble_eq_true rfl) h (fun w3 h => ?_)
    refine z_iinc (i := 3) v3 (v3 + 1) dX8_remove_43 rfl rfl (by decide) rfl ?_
    refine z_goto 23 dX8_remove_46 rfl ?_
    exact h
theorem eX8_remove {X : zX} {d kc ks : Nat} {w : zW} {Q : Option Value → zW → Prop} (p0 : Nat) (a1 : Int32) (h : zRn X d kc ks MX8_remove 0 [some (.ref p0), some (.int a1), none, none] [] w Q) : zEv X d kc ks MX8_remove [.ref p0, .int a1] w Q :=
  zEv.of (by decide) (Nat.le_of_ble_eq_true rfl) (Or.inr (by simp [Value.category])) h
set_option maxRecDepth 100000 in
set_option maxHeartbeats 4000000 in
theorem bX8_turnOver_0 {X : zX} {d kc ks : Nat} {w : zW} {Q : Option Value → zW → Prop} (p0 : Nat) (a1 : Int32)
    (h : zRn X d kc ks MX8_turnOver 2 [some (.ref p0), some (.int a1), some (.int 0), none, none, none] [] w Q) :
    zRn X d kc ks MX8_turnOver 0 [some (.ref p0), some (.int a1), none, none, none, none] [] w Q := by
  refine z_iconst 0 dX8_turnOver_0 rfl ?_
  refine z_istore_n (i := 2) dX8_turnOver_1 rfl (by decide) rfl ?_
  exact h
set_option maxRecDepth 100000 in
set_option maxHeartbeats 4000000 in
theorem bX8_turnOver_2 {X : zX} {d kc ks : Nat} {w : zW} {Q : Option Value → zW → Prop} (v0 : Nat) (v1 : Int32) (v2 : Int32)
    (h : ∃ x1, zfI w v0 8 1 = some x1 ∧ (if x1 ≤ v2 then (Q none w) else (zRn X d kc ks MX8_turnOver 17 [some (.ref v0), some (.int v1), some (.int v2), some (.int 0), some (.int (v1 - 1)), none] [] w Q))) :
    zRn X d kc ks MX8_turnOver 2 [some (.ref v0), some (.int v1), some (.int v2), none, none, none] [] w Q := by
  refine z_iload_n v2 dX8_turnOver_2 rfl rfl ?_
  refine z_aload_n v0 dX8_turnOver_3 rfl rfl ?_
  obtain ⟨x1, e, h⟩ := h
  refine zq_fI f_X8_15 dX8_turnOver_4 e ?_
  refine z_icmp_ge 68 dX8_turnOver_7 rfl (fun hc => ?_) (fun hc => ?_)
  · rw [if_pos hc] at h
    exact z_vreturn dX8_turnOver_68 rfl h
  · rw [if_neg hc] at h
    refine z_iconst 0 dX8_turnOver_10 rfl ?_
    refine z_istore_n (i := 3) dX8_turnOver_11 rfl (by decide) rfl ?_
    refine z_iload_n v1 dX8_turnOver_12 rfl rfl ?_
    refine z_iconst 1 dX8_turnOver_13 rfl ?_
    refine z_isub dX8_turnOver_14 ?_
    refine z_istore (i := 4) dX8_turnOver_15 (by decide) rfl ?_
    exact h
set_option maxRecDepth 100000 in
set_option maxHeartbeats 4000000 in
theorem bX8_turnOver_17 {X : zX} {d kc ks : Nat} {w : zW} {Q : Option Value → zW → Prop} (v0 : Nat) (v1 : Int32) (v2 : Int32) (v3 : Int32) (v4 : Int32)
    (h : if v4 ≤ v3 then (zRn X d kc ks MX8_turnOver 2 [some (.ref v0), some (.int v1), some (.int (v2 + 1)), none, none, none] [] w Q) else (zIs w v0 8 ∧ zCallI X d MX8_thingAt [.ref v0, .int v2, .int v3] w (fun x2 w1 => zIs w1 v0 8 ∧ zCallI X d MX8_thingAt [.ref v0, .int v2, .int v4] w1 (fun x4 w3 => zIs w3 v0 8 ∧ zCallV X d MX8_put [.ref v0, .int v2, .int v3, .int x4] w3 (fun w5 => zIs w5 v0 8 ∧ zCallV X d MX8_put [.ref v0, .int v2, .int v4, .int x2] w5 (fun w6 => zRn X d kc ks MX8_turnOver 17 [some (.ref v0), some (.int v1), some (.int v2), some (.int (v3 + 1)), some (.int (v4 - 1)), none] [] w6 Q)))))) :
    zRn X d kc ks MX8_turnOver 17 [some (.ref v0), some (.int v1), some (.int v2), some (.int v3), some (.int v4), none] [] w Q := by
  refine z_iload_n v3 dX8_turnOver_17 rfl rfl ?_
  refine z_iload v4 dX8_turnOver_18 rfl ?_
  refine z_icmp_ge 62 dX8_turnOver_20 rfl (fun hc => ?_) (fun hc => ?_)
  · rw [if_pos hc] at h
    refine z_iinc (i := 2) v2 (v2 + 1) dX8_turnOver_62 rfl rfl (by decide) rfl ?_
    refine z_goto 2 dX8_turnOver_65 rfl ?_
    exact zRn.weak h (zLe_of [true, true, true, false, false, true] (And.intro rfl (And.intro rfl (And.intro rfl (And.intro rfl (And.intro rfl (And.intro rfl (trivial))))))))
  · rw [if_neg hc] at h
    refine z_aload_n v0 dX8_turnOver_23 rfl rfl ?_
    refine z_iload_n v2 dX8_turnOver_24 rfl rfl ?_
    refine z_iload_n v3 dX8_turnOver_25 rfl rfl ?_
    refine zq_VI (N := MX8_thingAt) (As := [.int v2, .int v3]) m_X8_23 dX8_turnOver_26 rfl rfl (Nat.le_of_ble_eq_true rfl) h (fun x2 w1 h => ?_)
    refine z_istore (i := 5) dX8_turnOver_29 (by decide) rfl ?_
    refine z_aload_n v0 dX8_turnOver_31 rfl rfl ?_
    refine z_iload_n v2 dX8_turnOver_32 rfl rfl ?_
    refine z_iload_n v3 dX8_turnOver_33 rfl rfl ?_
    refine z_aload_n v0 dX8_turnOver_34 rfl rfl ?_
    refine z_iload_n v2 dX8_turnOver_35 rfl rfl ?_
    refine z_iload v4 dX8_turnOver_36 rfl ?_
    refine zq_VI (N := MX8_thingAt) (As := [.int v2, .int v4]) m_X8_23 dX8_turnOver_38 rfl rfl (Nat.le_of_ble_eq_true rfl) h (fun x4 w3 h => ?_)
    refine zq_VV (N := MX8_put) (As := [.int v2, .int v3, .int x4]) m_X8_45 dX8_turnOver_41 rfl rfl (Nat.le_of_ble_eq_true rfl) h (fun w5 h => ?_)
    refine z_aload_n v0 dX8_turnOver_44 rfl rfl ?_
    refine z_iload_n v2 dX8_turnOver_45 rfl rfl ?_
    refine z_iload v4 dX8_turnOver_46 rfl ?_
    refine z_iload x2 dX8_turnOver_48 rfl ?_
    refine zq_VV (N := MX8_put) (As := [.int v2, .int v4, .int x2]) m_X8_45 dX8_turnOver_50 rfl rfl (Nat.le_of_ble_eq_true rfl) h (fun w6 h => ?_)
    refine z_iinc (i := 3) v3 (v3 + 1) dX8_turnOver_53 rfl rfl (by decide) rfl ?_
    refine z_iinc (i := 4) v4 (v4 - 1) dX8_turnOver_56 rfl (zdec _) (by decide) rfl ?_
    refine z_goto 17 dX8_turnOver_59 rfl ?_
    exact zRn.weak h (zLe_of [true, true, true, true, true, false] (And.intro rfl (And.intro rfl (And.intro rfl (And.intro rfl (And.intro rfl (And.intro rfl (trivial))))))))
theorem eX8_turnOver {X : zX} {d kc ks : Nat} {w : zW} {Q : Option Value → zW → Prop} (p0 : Nat) (a1 : Int32) (h : zRn X d kc ks MX8_turnOver 0 [some (.ref p0), some (.int a1), none, none, none, none] [] w Q) : zEv X d kc ks MX8_turnOver [.ref p0, .int a1] w Q :=
  zEv.of (by decide) (Nat.le_of_ble_eq_true rfl) (Or.inr (by simp [Value.category])) h
set_option maxRecDepth 100000 in
set_option maxHeartbeats 4000000 in
theorem bX8_leaveOut_0 {X : zX} {d kc ks : Nat} {w : zW} {Q : Option Value → zW → Prop} (p0 : Nat) (a1 : Int32) (a2 : Int32)
    (h : zRn X d kc ks MX8_leaveOut 2 [some (.ref p0), some (.int a1), some (.int a2), some (.int 0), none, none, none] [] w Q) :
    zRn X d kc ks MX8_leaveOut 0 [some (.ref p0), some (.int a1), some (.int a2), none, none, none, none] [] w Q := by
  refine z_iconst 0 dX8_leaveOut_0 rfl ?_
  refine z_istore_n (i := 3) dX8_leaveOut_1 rfl (by decide) rfl ?_
  exact h
set_option maxRecDepth 100000 in
set_option maxHeartbeats 4000000 in
theorem bX8_leaveOut_2 {X : zX} {d kc ks : Nat} {w : zW} {Q : Option Value → zW → Prop} (v0 : Nat) (v1 : Int32) (v2 : Int32) (v3 : Int32)
    (h : ∃ x1, zfI w v0 8 1 = some x1 ∧ (if x1 ≤ v3 then (Q none w) else (zRn X d kc ks MX8_leaveOut 16 [some (.ref v0), some (.int v1), some (.int v2), some (.int v3), some (.int 0), some (.int 0), none] [] w Q))) :
    zRn X d kc ks MX8_leaveOut 2 [some (.ref v0), some (.int v1), some (.int v2), some (.int v3), none, none, none] [] w Q := by
  refine z_iload_n v3 dX8_leaveOut_2 rfl rfl ?_
  refine z_aload_n v0 dX8_leaveOut_3 rfl rfl ?_
  obtain ⟨x1, e, h⟩ := h
  refine zq_fI f_X8_15 dX8_leaveOut_4 e ?_
  refine z_icmp_ge 74 dX8_leaveOut_7 rfl (fun hc => ?_) (fun hc => ?_)
  · rw [if_pos hc] at h
    exact z_vreturn dX8_leaveOut_74 rfl h
  · rw [if_neg hc] at h
    refine z_iconst 0 dX8_leaveOut_10 rfl ?_
    refine z_istore (i := 4) dX8_leaveOut_11 (by decide) rfl ?_
    refine z_iconst 0 dX8_leaveOut_13 rfl ?_
    refine z_istore (i := 5) dX8_leaveOut_14 (by decide) rfl ?_
    exact h
set_option maxRecDepth 100000 in
set_option maxHeartbeats 4000000 in
theorem bX8_leaveOut_16 {X : zX} {d kc ks : Nat} {w : zW} {Q : Option Value → zW → Prop} (v0 : Nat) (v1 : Int32) (v2 : Int32) (v3 : Int32) (v4 : Int32) (v5 : Int32)
    (h : if v2 ≤ v5 then (zRn X d kc ks MX8_leaveOut 2 [some (.ref v0), some (.int v1), some (.int v2), some (.int (v3 + 1)), none, none, none] [] w Q) else (zIs w v0 8 ∧ zCallI X d MX8_thingAt [.ref v0, .int v3, .int v5] w (fun x2 w1 => if x2 = v1 then (zRn X d kc ks MX8_leaveOut 62 [some (.ref v0), some (.int v1), some (.int v2), some (.int v3), some (.int v4), some (.int v5), none] [] w1 Q) else (if x2 ≤ v1 then (zRn X d kc ks MX8_leaveOut 56 [some (.ref v0), some (.int v1), some (.int v2), some (.int v3), some (.int v4), some (.int v5), none] [.int x2, .int v4, .int v3, .ref v0] w1 Q) else (zRn X d kc ks MX8_leaveOut 56 [some (.ref v0), some (.int v1), some (.int v2), some (.int v3), some (.int v4), some (.int v5), none] [.int (x2 - 1), .int v4, .int v3, .ref v0] w1 Q))))) :
    zRn X d kc ks MX8_leaveOut 16 [some (.ref v0), some (.int v1), some (.int v2), some (.int v3), some (.int v4), some (.int v5), none] [] w Q := by
  refine z_iload v5 dX8_leaveOut_16 rfl ?_
  refine z_iload_n v2 dX8_leaveOut_18 rfl rfl ?_
  refine z_icmp_ge 68 dX8_leaveOut_19 rfl (fun hc => ?_) (fun hc => ?_)
  · rw [if_pos hc] at h
    refine z_iinc (i := 3) v3 (v3 + 1) dX8_leaveOut_68 rfl rfl (by decide) rfl ?_
    refine z_goto 2 dX8_leaveOut_71 rfl ?_
    exact zRn.weak h (zLe_of [true, true, true, true, false, false, true] (And.intro rfl (And.intro rfl (And.intro rfl (And.intro rfl (And.intro rfl (And.intro rfl (And.intro rfl (trivial)))))))))
  · rw [if_neg hc] at h
    refine z_aload_n v0 dX8_leaveOut_22 rfl rfl ?_
    refine z_iload_n v3 dX8_leaveOut_23 rfl rfl ?_
    refine z_iload v5 dX8_leaveOut_24 rfl ?_
    refine zq_VI (N := MX8_thingAt) (As := [.int v3, .int v5]) m_X8_23 dX8_leaveOut_26 rfl rfl (Nat.le_of_ble_eq_true rfl) h (fun x2 w1 h => ?_)
    refine z_istore (i := 6) dX8_leaveOut_29 (by decide) rfl ?_
    refine z_iload x2 dX8_leaveOut_31 rfl ?_
    refine z_iload_n v1 dX8_leaveOut_33 rfl rfl ?_
    refine z_icmp_eq 62 dX8_leaveOut_34 rfl (fun hc => ?_) (fun hc => ?_)
    · rw [if_pos hc] at h
      exact zRn.weak h (zLe_of [true, true, true, true, true, true, false] (And.intro rfl (And.intro rfl (And.intro rfl (And.intro rfl (And.intro rfl (And.intro rfl (And.intro rfl (trivial)))))))))
    · rw [if_neg hc] at h
      refine z_aload_n v0 dX8_leaveOut_37 rfl rfl ?_
      refine z_iload_n v3 dX8_leaveOut_38 rfl rfl ?_
      refine z_iload v4 dX8_leaveOut_39 rfl ?_
      refine z_iload x2 dX8_leaveOut_41 rfl ?_
      refine z_iload_n v1 dX8_leaveOut_43 rfl rfl ?_
      refine z_icmp_le 54 dX8_leaveOut_44 rfl (fun hc => ?_) (fun hc => ?_)
      · rw [if_pos hc] at h
        refine z_iload x2 dX8_leaveOut_54 rfl ?_
        exact zRn.weak h (zLe_of [true, true, true, true, true, true, false] (And.intro rfl (And.intro rfl (And.intro rfl (And.intro rfl (And.intro rfl (And.intro rfl (And.intro rfl (trivial)))))))))
      · rw [if_neg hc] at h
        refine z_iload x2 dX8_leaveOut_47 rfl ?_
        refine z_iconst 1 dX8_leaveOut_49 rfl ?_
        refine z_isub dX8_leaveOut_50 ?_
        refine z_goto 56 dX8_leaveOut_51 rfl ?_
        exact zRn.weak h (zLe_of [true, true, true, true, true, true, false] (And.intro rfl (And.intro rfl (And.intro rfl (And.intro rfl (And.intro rfl (And.intro rfl (And.intro rfl (trivial)))))))))
set_option maxRecDepth 100000 in
set_option maxHeartbeats 4000000 in
theorem bX8_leaveOut_56 {X : zX} {d kc ks : Nat} {w : zW} {Q : Option Value → zW → Prop} (v0 : Nat) (v1 : Int32) (v2 : Int32) (v3 : Int32) (v4 : Int32) (v5 : Int32) (u0 : Int32) (u1 : Int32) (u2 : Int32) (u3 : Nat)
    (h : zIs w u3 8 ∧ zCallV X d MX8_put [.ref u3, .int u2, .int u1, .int u0] w (fun w1 => zRn X d kc ks MX8_leaveOut 62 [some (.ref v0), some (.int v1), some (.int v2), some (.int v3), some (.int (v4 + 1)), some (.int v5), none] [] w1 Q)) :
    zRn X d kc ks MX8_leaveOut 56 [some (.ref v0), some (.int v1), some (.int v2), some (.int v3), some (.int v4), some (.int v5), none] [.int u0, .int u1, .int u2, .ref u3] w Q := by
  refine zq_VV (N := MX8_put) (As := [.int u2, .int u1, .int u0]) m_X8_45 dX8_leaveOut_56 rfl rfl (Nat.le_of_ble_eq_true rfl) h (fun w1 h => ?_)
  refine z_iinc (i := 4) v4 (v4 + 1) dX8_leaveOut_59 rfl rfl (by decide) rfl ?_
  exact h
set_option maxRecDepth 100000 in
set_option maxHeartbeats 4000000 in
theorem bX8_leaveOut_62 {X : zX} {d kc ks : Nat} {w : zW} {Q : Option Value → zW → Prop} (v0 : Nat) (v1 : Int32) (v2 : Int32) (v3 : Int32) (v4 : Int32) (v5 : Int32)
    (h : zRn X d kc ks MX8_leaveOut 16 [some (.ref v0), some (.int v1), some (.int v2), some (.int v3), some (.int v4), some (.int (v5 + 1)), none] [] w Q) :
    zRn X d kc ks MX8_leaveOut 62 [some (.ref v0), some (.int v1), some (.int v2), some (.int v3), some (.int v4), some (.int v5), none] [] w Q := by
  refine z_iinc (i := 5) v5 (v5 + 1) dX8_leaveOut_62 rfl rfl (by decide) rfl ?_
  refine z_goto 16 dX8_leaveOut_65 rfl ?_
  exact h
theorem eX8_leaveOut {X : zX} {d kc ks : Nat} {w : zW} {Q : Option Value → zW → Prop} (p0 : Nat) (a1 : Int32) (a2 : Int32) (h : zRn X d kc ks MX8_leaveOut 0 [some (.ref p0), some (.int a1), some (.int a2), none, none, none, none] [] w Q) : zEv X d kc ks MX8_leaveOut [.ref p0, .int a1, .int a2] w Q :=
  zEv.of (by decide) (Nat.le_of_ble_eq_true rfl) (Or.inr (by simp [Value.category])) h
