set_option maxRecDepth 100000 in
set_option maxHeartbeats 4000000 in
theorem bX0_init_0 {X : zX} {d kc ks : Nat} {w : zW} {Q : Option Value → zW → Prop} (p0 : Nat) (a1 : Int32)
    (h : 0 < d ∧ (0 < d ∧ (∃ n1 : Nat, ((if a1 < 0 then 0 else a1) = nI n1 ∧ n1 ≤ 100000 ∧ w.length < zBig ∧ 1 ≤ kc ∧ n1 ≤ ks) ∧ (∃ w2, zsF (w ++ [zI n1 (fun _ => 0)]) p0 0 0 (.ref w.length) = some w2 ∧ (Q none w2))))) :
    zRn X d kc ks MX0_init 0 [some (.ref p0), some (.int a1)] [] w Q := by
  refine z_aload_n p0 dX0_init_0 rfl rfl ?_
  refine z_objInit g_189 g_127 g_128 dX0_init_1 (Nat.le_of_ble_eq_true rfl) h.1 ?_
  have h := h.2
  refine z_aload_n p0 dX0_init_4 rfl rfl ?_
  refine z_iload_n a1 dX0_init_5 rfl rfl ?_
  refine z_iconst 0 dX0_init_6 rfl ?_
  refine z_mmax g_190 g_191 g_106 g_192 dX0_init_7 (Nat.le_of_ble_eq_true rfl) h.1 ?_
  have h := h.2
  obtain ⟨n1, h⟩ := h
  refine zq_newa (N := n1) g_149 dX0_init_10 h.1 ?_
  have h := h.2
  obtain ⟨w2, e, h⟩ := h
  refine zq_sFf f_X0_15 rfl dX0_init_12 (fun _ => rfl) (fun _ => rfl) e ?_
  exact z_vreturn dX0_init_15 rfl h
theorem eX0_init {X : zX} {d kc ks : Nat} {w : zW} {Q : Option Value → zW → Prop} (p0 : Nat) (a1 : Int32) (h : zRn X d kc ks MX0_init 0 [some (.ref p0), some (.int a1)] [] w Q) : zEv X d kc ks MX0_init [.ref p0, .int a1] w Q :=
  zEv.of (by decide) (Nat.le_of_ble_eq_true rfl) (Or.inr (by simp [Value.category])) h
set_option maxRecDepth 100000 in
set_option maxHeartbeats 4000000 in
theorem bX0_size_0 {X : zX} {d kc ks : Nat} {w : zW} {Q : Option Value → zW → Prop} (p0 : Nat)
    (h : ∃ x1, zfI w p0 0 1 = some x1 ∧ (Q (some (.int x1)) w)) :
    zRn X d kc ks MX0_size 0 [some (.ref p0)] [] w Q := by
  refine z_aload_n p0 dX0_size_0 rfl rfl ?_
  obtain ⟨x1, e, h⟩ := h
  refine zq_fI f_X0_21 dX0_size_1 e ?_
  exact z_ireturn .int dX0_size_4 rfl rfl h
theorem eX0_size {X : zX} {d kc ks : Nat} {w : zW} {Q : Option Value → zW → Prop} (p0 : Nat) (h : zRn X d kc ks MX0_size 0 [some (.ref p0)] [] w Q) : zEv X d kc ks MX0_size [.ref p0] w Q :=
  zEv.of (by decide) (Nat.le_of_ble_eq_true rfl) (Or.inr (by simp [Value.category])) h
set_option maxRecDepth 100000 in
set_option maxHeartbeats 4000000 in
theorem bX0_putFour_0 {X : zX} {d kc ks : Nat} {w : zW} {Q : Option Value → zW → Prop} (p0 : Nat) (a1 : Int32)
    (h : zIs w p0 0 ∧ zCallV X d MX0_put [.ref p0, .int (a1 >>> (24 &&& 31))] w (fun w1 => zIs w1 p0 0 ∧ zCallV X d MX0_put [.ref p0, .int (a1 >>> (16 &&& 31))] w1 (fun w2 => zIs w2 p0 0 ∧ zCallV X d MX0_put [.ref p0, .int (a1 >>> (8 &&& 31))] w2 (fun w3 => zIs w3 p0 0 ∧ zCallV X d MX0_put [.ref p0, .int a1] w3 (fun w4 => Q none w4))))) :
    zRn X d kc ks MX0_putFour 0 [some (.ref p0), some (.int a1)] [] w Q := by
  refine z_aload_n p0 dX0_putFour_0 rfl rfl ?_
  refine z_iload_n a1 dX0_putFour_1 rfl rfl ?_
  refine z_bipush 24 dX0_putFour_2 rfl ?_
  refine z_ishr dX0_putFour_4 ?_
  refine zq_VV (N := MX0_put) (As := [.int (a1 >>> (24 &&& 31))]) m_X0_25 dX0_putFour_5 rfl rfl (Nat.le_of_ble_eq_true rfl) h (fun w1 h => ?_)
  refine z_aload_n p0 dX0_putFour_8 rfl rfl ?_
  refine z_iload_n a1 dX0_putFour_9 rfl rfl ?_
  refine z_bipush 16 dX0_putFour_10 rfl ?_
  refine z_ishr dX0_putFour_12 ?_
  refine zq_VV (N := MX0_put) (As := [.int (a1 >>> (16 &&& 31))]) m_X0_25 dX0_putFour_13 rfl rfl (Nat.le_of_ble_eq_true rfl) h (fun w2 h => ?_)
  refine z_aload_n p0 dX0_putFour_16 rfl rfl ?_
  refine z_iload_n a1 dX0_putFour_17 rfl rfl ?_
  refine z_bipush 8 dX0_putFour_18 rfl ?_
  refine z_ishr dX0_putFour_20 ?_
  refine zq_VV (N := MX0_put) (As := [.int (a1 >>> (8 &&& 31))]) m_X0_25 dX0_putFour_21 rfl rfl (Nat.le_of_ble_eq_true rfl) h (fun w3 h => ?_)
  refine z_aload_n p0 dX0_putFour_24 rfl rfl ?_
  refine z_iload_n a1 dX0_putFour_25 rfl rfl ?_
  refine zq_VV (N := MX0_put) (As := [.int a1]) m_X0_25 dX0_putFour_26 rfl rfl (Nat.le_of_ble_eq_true rfl) h (fun w4 h => ?_)
  exact z_vreturn dX0_putFour_29 rfl h
theorem eX0_putFour {X : zX} {d kc ks : Nat} {w : zW} {Q : Option Value → zW → Prop} (p0 : Nat) (a1 : Int32) (h : zRn X d kc ks MX0_putFour 0 [some (.ref p0), some (.int a1)] [] w Q) : zEv X d kc ks MX0_putFour [.ref p0, .int a1] w Q :=
  zEv.of (by decide) (Nat.le_of_ble_eq_true rfl) (Or.inr (by simp [Value.category])) h
set_option maxRecDepth 100000 in
set_option maxHeartbeats 4000000 in
theorem bX0_put_0 {X : zX} {d kc ks : Nat} {w : zW} {Q : Option Value → zW → Prop} (p0 : Nat) (a1 : Int32)
    (h : ∃ x1, zfI w p0 0 1 = some x1 ∧ (∃ r2, zfR w p0 0 0 = some r2 ∧ (∃ x3, zaL w r2 = some x3 ∧ (if x3 ≤ x1 then (Q none w) else (∃ r4, zfR w p0 0 0 = some r4 ∧ (∃ x5, zfI w p0 0 1 = some x5 ∧ (∃ w6, zsI w r4 x5 (a1 &&& 255) = some w6 ∧ (∃ x7, zfI w6 p0 0 1 = some x7 ∧ (∃ w8, zsF w6 p0 0 1 (.int (x7 + 1)) = some w8 ∧ (Q none w8)))))))))) :
    zRn X d kc ks MX0_put 0 [some (.ref p0), some (.int a1)] [] w Q := by
  refine z_aload_n p0 dX0_put_0 rfl rfl ?_
  obtain ⟨x1, e, h⟩ := h
  refine zq_fI f_X0_21 dX0_put_1 e ?_
  refine z_aload_n p0 dX0_put_4 rfl rfl ?_
  obtain ⟨r2, e, h⟩ := h
  refine zq_fR f_X0_15 dX0_put_5 e ?_
  obtain ⟨x3, e, h⟩ := h
  refine zq_aL dX0_put_8 e ?_
  refine z_icmp_ge 36 dX0_put_9 rfl (fun hc => ?_) (fun hc => ?_)
  · rw [if_pos hc] at h
    exact z_vreturn dX0_put_36 rfl h
  · rw [if_neg hc] at h
    refine z_aload_n p0 dX0_put_12 rfl rfl ?_
    obtain ⟨r4, e, h⟩ := h
    refine zq_fR f_X0_15 dX0_put_13 e ?_
    refine z_aload_n p0 dX0_put_16 rfl rfl ?_
    obtain ⟨x5, e, h⟩ := h
    refine zq_fI f_X0_21 dX0_put_17 e ?_
    refine z_iload_n a1 dX0_put_20 rfl rfl ?_
    refine z_sipush 255 dX0_put_21 rfl ?_
    refine z_iand dX0_put_24 ?_
    obtain ⟨w6, e, h⟩ := h
    refine zq_sI dX0_put_25 e ?_
    refine z_aload_n p0 dX0_put_26 rfl rfl ?_
    refine z_dup dX0_put_27 rfl ?_
    obtain ⟨x7, e, h⟩ := h
    refine zq_fI f_X0_21 dX0_put_28 e ?_
    refine z_iconst 1 dX0_put_31 rfl ?_
    refine z_iadd dX0_put_32 ?_
    obtain ⟨w8, e, h⟩ := h
    refine zq_sF f_X0_21 dX0_put_33 (fun _ => rfl) (fun _ => rfl) e ?_
    exact z_vreturn dX0_put_36 rfl h
theorem eX0_put {X : zX} {d kc ks : Nat} {w : zW} {Q : Option Value → zW → Prop} (p0 : Nat) (a1 : Int32) (h : zRn X d kc ks MX0_put 0 [some (.ref p0), some (.int a1)] [] w Q) : zEv X d kc ks MX0_put [.ref p0, .int a1] w Q :=
  zEv.of (by decide) (Nat.le_of_ble_eq_true rfl) (Or.inr (by simp [Value.category])) h
set_option maxRecDepth 100000 in
set_option maxHeartbeats 4000000 in
theorem bX0_shorten_0 {X : zX} {d kc ks : Nat} {w : zW} {Q : Option Value → zW → Prop} (p0 : Nat) (a1 : Int32)
    (h : if a1 < 0 then (Q none w) else (∃ x1, zfI w p0 0 1 = some x1 ∧ (if x1 ≤ a1 then (Q none w) else (∃ w2, zsF w p0 0 1 (.int a1) = some w2 ∧ (Q none w2))))) :
    zRn X d kc ks MX0_shorten 0 [some (.ref p0), some (.int a1)] [] w Q := by
  refine z_iload_n a1 dX0_shorten_0 rfl rfl ?_
  refine z_if_lt 17 dX0_shorten_1 rfl (fun hc => ?_) (fun hc => ?_)
  · rw [if_pos hc] at h
    exact z_vreturn dX0_shorten_17 rfl h
  · rw [if_neg hc] at h
    refine z_iload_n a1 dX0_shorten_4 rfl rfl ?_
    refine z_aload_n p0 dX0_shorten_5 rfl rfl ?_
    obtain ⟨x1, e, h⟩ := h
    refine zq_fI f_X0_21 dX0_shorten_6 e ?_
    refine z_icmp_ge 17 dX0_shorten_9 rfl (fun hc => ?_) (fun hc => ?_)
    · rw [if_pos hc] at h
      exact z_vreturn dX0_shorten_17 rfl h
    · rw [if_neg hc] at h
      refine z_aload_n p0 dX0_shorten_12 rfl rfl ?_
      refine z_iload_n a1 dX0_shorten_13 rfl rfl ?_
      obtain ⟨w2, e, h⟩ := h
      refine zq_sF f_X0_21 dX0_shorten_14 (fun _ => rfl) (fun _ => rfl) e ?_
      exact z_vreturn dX0_shorten_17 rfl h
theorem eX0_shorten {X : zX} {d kc ks : Nat} {w : zW} {Q : Option Value → zW → Prop} (p0 : Nat) (a1 : Int32) (h : zRn X d kc ks MX0_shorten 0 [some (.ref p0), some (.int a1)] [] w Q) : zEv X d kc ks MX0_shorten [.ref p0, .int a1] w Q :=
  zEv.of (by decide) (Nat.le_of_ble_eq_true rfl) (Or.inr (by simp [Value.category])) h
set_option maxRecDepth 100000 in
set_option maxHeartbeats 4000000 in
theorem bX0_byteAt_0 {X : zX} {d kc ks : Nat} {w : zW} {Q : Option Value → zW → Prop} (p0 : Nat) (a1 : Int32)
    (h : if a1 < 0 then (Q (some (.int (-1))) w) else (∃ x1, zfI w p0 0 1 = some x1 ∧ (if x1 ≤ a1 then (Q (some (.int (-1))) w) else (∃ r2, zfR w p0 0 0 = some r2 ∧ (∃ x3, zaI w r2 a1 = some x3 ∧ (Q (some (.int x3)) w)))))) :
    zRn X d kc ks MX0_byteAt 0 [some (.ref p0), some (.int a1)] [] w Q := by
  refine z_iload_n a1 dX0_byteAt_0 rfl rfl ?_
  refine z_if_lt 21 dX0_byteAt_1 rfl (fun hc => ?_) (fun hc => ?_)
  · rw [if_pos hc] at h
    refine z_iconst (-1) dX0_byteAt_21 rfl ?_
    exact z_ireturn .int dX0_byteAt_22 rfl rfl h
  · rw [if_neg hc] at h
    refine z_iload_n a1 dX0_byteAt_4 rfl rfl ?_
    refine z_aload_n p0 dX0_byteAt_5 rfl rfl ?_
    obtain ⟨x1, e, h⟩ := h
    refine zq_fI f_X0_21 dX0_byteAt_6 e ?_
    refine z_icmp_ge 21 dX0_byteAt_9 rfl (fun hc => ?_) (fun hc => ?_)
    · rw [if_pos hc] at h
      refine z_iconst (-1) dX0_byteAt_21 rfl ?_
      exact z_ireturn .int dX0_byteAt_22 rfl rfl h
    · rw [if_neg hc] at h
      refine z_aload_n p0 dX0_byteAt_12 rfl rfl ?_
      obtain ⟨r2, e, h⟩ := h
      refine zq_fR f_X0_15 dX0_byteAt_13 e ?_
      refine z_iload_n a1 dX0_byteAt_16 rfl rfl ?_
      obtain ⟨x3, e, h⟩ := h
      refine zq_aI dX0_byteAt_17 e ?_
      refine z_goto 22 dX0_byteAt_18 rfl ?_
      exact z_ireturn .int dX0_byteAt_22 rfl rfl h
theorem eX0_byteAt {X : zX} {d kc ks : Nat} {w : zW} {Q : Option Value → zW → Prop} (p0 : Nat) (a1 : Int32) (h : zRn X d kc ks MX0_byteAt 0 [some (.ref p0), some (.int a1)] [] w Q) : zEv X d kc ks MX0_byteAt [.ref p0, .int a1] w Q :=
  zEv.of (by decide) (Nat.le_of_ble_eq_true rfl) (Or.inr (by simp [Value.category])) h
set_option maxRecDepth 100000 in
set_option maxHeartbeats 4000000 in
theorem bX0_putWord_0 {X : zX} {d kc ks : Nat} {w : zW} {Q : Option Value → zW → Prop} (p0 : Nat) (p1 : Nat)
    (h : zRn X d kc ks MX0_putWord 2 [some (.ref p0), some (.ref p1), some (.int 0)] [] w Q) :
    zRn X d kc ks MX0_putWord 0 [some (.ref p0), some (.ref p1), none] [] w Q := by
  refine z_iconst 0 dX0_putWord_0 rfl ?_
  refine z_istore_n (i := 2) dX0_putWord_1 rfl (by decide) rfl ?_
  exact h
set_option maxRecDepth 100000 in
set_option maxHeartbeats 4000000 in
theorem bX0_putWord_2 {X : zX} {d kc ks : Nat} {w : zW} {Q : Option Value → zW → Prop} (v0 : Nat) (v1 : Nat) (v2 : Int32)
    (h : 5 < d ∧ ∃ x1, zTL v1 = some x1 ∧ (if x1 ≤ v2 then (Q none w) else (5 < d ∧ ∃ x3, zTC v1 v2 = some x3 ∧ (zIs w v0 0 ∧ zCallV X d MX0_put [.ref v0, .int x3] w (fun w5 => zRn X d kc ks MX0_putWord 2 [some (.ref v0), some (.ref v1), some (.int (v2 + 1))] [] w5 Q))))) :
    zRn X d kc ks MX0_putWord 2 [some (.ref v0), some (.ref v1), some (.int v2)] [] w Q := by
  refine z_iload_n v2 dX0_putWord_2 rfl rfl ?_
  refine z_aload_n v1 dX0_putWord_3 rfl rfl ?_
  obtain ⟨hd0, x1, e, h⟩ := h
  refine zq_len mt_X0_29 dX0_putWord_4 (Nat.le_of_ble_eq_true rfl) hd0 e ?_
  refine z_icmp_ge 25 dX0_putWord_7 rfl (fun hc => ?_) (fun hc => ?_)
  · rw [if_pos hc] at h
    exact z_vreturn dX0_putWord_25 rfl h
  · rw [if_neg hc] at h
    refine z_aload_n v0 dX0_putWord_10 rfl rfl ?_
    refine z_aload_n v1 dX0_putWord_11 rfl rfl ?_
    refine z_iload_n v2 dX0_putWord_12 rfl rfl ?_
    obtain ⟨hd0, x3, e, h⟩ := h
    refine zq_chr mt_X0_35 dX0_putWord_13 (Nat.le_of_ble_eq_true rfl) hd0 e ?_
    refine zq_VV (N := MX0_put) (As := [.int x3]) m_X0_25 dX0_putWord_16 rfl rfl (Nat.le_of_ble_eq_true rfl) h (fun w5 h => ?_)
    refine z_iinc (i := 2) v2 (v2 + 1) dX0_putWord_19 rfl rfl (by decide) rfl ?_
    refine z_goto 2 dX0_putWord_22 rfl ?_
    exact h
theorem eX0_putWord {X : zX} {d kc ks : Nat} {w : zW} {Q : Option Value → zW → Prop} (p0 : Nat) (p1 : Nat) (h : zRn X d kc ks MX0_putWord 0 [some (.ref p0), some (.ref p1), none] [] w Q) : zEv X d kc ks MX0_putWord [.ref p0, .ref p1] w Q :=
  zEv.of (by decide) (Nat.le_of_ble_eq_true rfl) (Or.inr (by simp [Value.category])) h
set_option maxRecDepth 100000 in
set_option maxHeartbeats 4000000 in
theorem bX0_putDigit_0 {X : zX} {d kc ks : Nat} {w : zW} {Q : Option Value → zW → Prop} (p0 : Nat) (a1 : Int32)
    (h : zIs w p0 0 ∧ zCallV X d MX0_put [.ref p0, .int ((48 : Int32) + a1)] w (fun w1 => Q none w1)) :
    zRn X d kc ks MX0_putDigit 0 [some (.ref p0), some (.int a1)] [] w Q := by
  refine z_aload_n p0 dX0_putDigit_0 rfl rfl ?_
  refine z_bipush 48 dX0_putDigit_1 rfl ?_
  refine z_iload_n a1 dX0_putDigit_3 rfl rfl ?_
  refine z_iadd dX0_putDigit_4 ?_
  refine zq_VV (N := MX0_put) (As := [.int ((48 : Int32) + a1)]) m_X0_25 dX0_putDigit_5 rfl rfl (Nat.le_of_ble_eq_true rfl) h (fun w1 h => ?_)
  exact z_vreturn dX0_putDigit_8 rfl h
theorem eX0_putDigit {X : zX} {d kc ks : Nat} {w : zW} {Q : Option Value → zW → Prop} (p0 : Nat) (a1 : Int32) (h : zRn X d kc ks MX0_putDigit 0 [some (.ref p0), some (.int a1)] [] w Q) : zEv X d kc ks MX0_putDigit [.ref p0, .int a1] w Q :=
  zEv.of (by decide) (Nat.le_of_ble_eq_true rfl) (Or.inr (by simp [Value.category])) h
