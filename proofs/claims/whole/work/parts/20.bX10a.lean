set_option maxRecDepth 100000 in
set_option maxHeartbeats 4000000 in
theorem bX10_widest_0 {X : zX} {d kc ks : Nat} {w : zW} {Q : Option Value → zW → Prop} (p0 : Nat)
    (h : zRn X d kc ks MX10_widest 4 [some (.ref p0), some (.int 0), some (.int 1)] [] w Q) :
    zRn X d kc ks MX10_widest 0 [some (.ref p0), none, none] [] w Q := by
  refine z_iconst 0 dX10_widest_0 rfl ?_
  refine z_istore_n (i := 1) dX10_widest_1 rfl (by decide) rfl ?_
  refine z_iconst 1 dX10_widest_2 rfl ?_
  refine z_istore_n (i := 2) dX10_widest_3 rfl (by decide) rfl ?_
  exact h
set_option maxRecDepth 100000 in
set_option maxHeartbeats 4000000 in
theorem bX10_widest_4 {X : zX} {d kc ks : Nat} {w : zW} {Q : Option Value → zW → Prop} (v0 : Nat) (v1 : Int32) (v2 : Int32)
    (h : zIs w v0 5 ∧ zCallI X d MX5_all [.ref v0] w (fun x2 w1 => if x2 < v2 then (Q (some (.int v1)) w1) else (zCallI X d MJ6_bitCount_0f7a4 [.int v2] w1 (fun x4 w3 => zCallI X d MJ6_bitCount_0f7a4 [.int v1] w3 (fun x6 w5 => if x4 ≤ x6 then (zRn X d kc ks MX10_widest 33 [some (.ref v0), some (.int v1), some (.int v2)] [] w5 Q) else (zCallI X d MX10_isFreeSet [.ref v0, .int v2] w5 (fun x8 w7 => if x8 = 0 then (zRn X d kc ks MX10_widest 33 [some (.ref v0), some (.int v1), some (.int v2)] [] w7 Q) else (zRn X d kc ks MX10_widest 33 [some (.ref v0), some (.int v2), some (.int v2)] [] w7 Q)))))))) :
    zRn X d kc ks MX10_widest 4 [some (.ref v0), some (.int v1), some (.int v2)] [] w Q := by
  refine z_iload_n v2 dX10_widest_4 rfl rfl ?_
  refine z_aload_n v0 dX10_widest_5 rfl rfl ?_
  refine zq_VI (N := MX5_all) (As := []) m_X10_7 dX10_widest_6 rfl rfl (Nat.le_of_ble_eq_true rfl) h (fun x2 w1 h => ?_)
  refine z_icmp_gt 39 dX10_widest_9 rfl (fun hc => ?_) (fun hc => ?_)
  · rw [if_pos hc] at h
    refine z_iload_n v1 dX10_widest_39 rfl rfl ?_
    exact z_ireturn .int dX10_widest_40 rfl rfl h
  · rw [if_neg hc] at h
    refine z_iload_n v2 dX10_widest_12 rfl rfl ?_
    refine zq_SI (N := MJ6_bitCount_0f7a4) (As := [.int v2]) m_X10_13 dX10_widest_13 rfl rfl (Nat.le_of_ble_eq_true rfl) h (fun x4 w3 h => ?_)
    refine z_iload_n v1 dX10_widest_16 rfl rfl ?_
    refine zq_SI (N := MJ6_bitCount_0f7a4) (As := [.int v1]) m_X10_13 dX10_widest_17 rfl rfl (Nat.le_of_ble_eq_true rfl) h (fun x6 w5 h => ?_)
    refine z_icmp_le 33 dX10_widest_20 rfl (fun hc => ?_) (fun hc => ?_)
    · rw [if_pos hc] at h
      exact h
    · rw [if_neg hc] at h
      refine z_aload_n v0 dX10_widest_23 rfl rfl ?_
      refine z_iload_n v2 dX10_widest_24 rfl rfl ?_
      refine zq_SI (N := MX10_isFreeSet) (As := [.ref v0, .int v2]) m_X10_19 dX10_widest_25 rfl rfl (Nat.le_of_ble_eq_true rfl) h (fun x8 w7 h => ?_)
      refine z_if_eq 33 dX10_widest_28 rfl (fun hc => ?_) (fun hc => ?_)
      · rw [if_pos hc] at h
        exact h
      · rw [if_neg hc] at h
        refine z_iload_n v2 dX10_widest_31 rfl rfl ?_
        refine z_istore_n (i := 1) dX10_widest_32 rfl (by decide) rfl ?_
        exact h
set_option maxRecDepth 100000 in
set_option maxHeartbeats 4000000 in
theorem bX10_widest_33 {X : zX} {d kc ks : Nat} {w : zW} {Q : Option Value → zW → Prop} (v0 : Nat) (v1 : Int32) (v2 : Int32)
    (h : zRn X d kc ks MX10_widest 4 [some (.ref v0), some (.int v1), some (.int (v2 + 1))] [] w Q) :
    zRn X d kc ks MX10_widest 33 [some (.ref v0), some (.int v1), some (.int v2)] [] w Q := by
  refine z_iinc (i := 2) v2 (v2 + 1) dX10_widest_33 rfl rfl (by decide) rfl ?_
  refine z_goto 4 dX10_widest_36 rfl ?_
  exact h
theorem eX10_widest {X : zX} {d kc ks : Nat} {w : zW} {Q : Option Value → zW → Prop} (p0 : Nat) (h : zRn X d kc ks MX10_widest 0 [some (.ref p0), none, none] [] w Q) : zEv X d kc ks MX10_widest [.ref p0] w Q :=
  zEv.of (by decide) (Nat.le_of_ble_eq_true rfl) (Or.inr (by simp [Value.category])) h
set_option maxRecDepth 100000 in
set_option maxHeartbeats 4000000 in
theorem bX10_isFreeSet_0 {X : zX} {d kc ks : Nat} {w : zW} {Q : Option Value → zW → Prop} (p0 : Nat) (a1 : Int32)
    (h : zRn X d kc ks MX10_isFreeSet 2 [some (.ref p0), some (.int a1), some (.int 0)] [] w Q) :
    zRn X d kc ks MX10_isFreeSet 0 [some (.ref p0), some (.int a1), none] [] w Q := by
  refine z_iconst 0 dX10_isFreeSet_0 rfl ?_
  refine z_istore_n (i := 2) dX10_isFreeSet_1 rfl (by decide) rfl ?_
  exact h
set_option maxRecDepth 100000 in
set_option maxHeartbeats 4000000 in
theorem bX10_isFreeSet_2 {X : zX} {d kc ks : Nat} {w : zW} {Q : Option Value → zW → Prop} (v0 : Nat) (v1 : Int32) (v2 : Int32)
    (h : zIs w v0 5 ∧ zCallI X d MX5_size [.ref v0] w (fun x2 w1 => if x2 ≤ v2 then (Q (some (.int 1)) w1) else (if ((v1 >>> (v2 &&& 31)) &&& 1) = 1 then (zIs w1 v0 5 ∧ zCallI X d MX5_belowOf [.ref v0, .int v2] w1 (fun x4 w3 => if (x4 &&& v1) = 0 then (zRn X d kc ks MX10_isFreeSet 31 [some (.ref v0), some (.int v1), some (.int v2)] [] w3 Q) else (Q (some (.int 0)) w3))) else (zRn X d kc ks MX10_isFreeSet 31 [some (.ref v0), some (.int v1), some (.int v2)] [] w1 Q)))) :
    zRn X d kc ks MX10_isFreeSet 2 [some (.ref v0), some (.int v1), some (.int v2)] [] w Q := by
  refine z_iload_n v2 dX10_isFreeSet_2 rfl rfl ?_
  refine z_aload_n v0 dX10_isFreeSet_3 rfl rfl ?_
  refine zq_VI (N := MX5_size) (As := []) m_X10_25 dX10_isFreeSet_4 rfl rfl (Nat.le_of_ble_eq_true rfl) h (fun x2 w1 h => ?_)
  refine z_icmp_ge 37 dX10_isFreeSet_7 rfl (fun hc => ?_) (fun hc => ?_)
  · rw [if_pos hc] at h
    refine z_iconst 1 dX10_isFreeSet_37 rfl ?_
    exact z_ireturn .boolean dX10_isFreeSet_38 rfl rfl h
  · rw [if_neg hc] at h
    refine z_iload_n v1 dX10_isFreeSet_10 rfl rfl ?_
    refine z_iload_n v2 dX10_isFreeSet_11 rfl rfl ?_
    refine z_ishr dX10_isFreeSet_12 ?_
    refine z_iconst 1 dX10_isFreeSet_13 rfl ?_
    refine z_iand dX10_isFreeSet_14 ?_
    refine z_iconst 1 dX10_isFreeSet_15 rfl ?_
    refine z_icmp_ne 31 dX10_isFreeSet_16 rfl (fun hc => ?_) (fun hc => ?_)
    · rw [if_neg hc] at h
      exact h
    · rw [if_pos hc] at h
      refine z_aload_n v0 dX10_isFreeSet_19 rfl rfl ?_
      refine z_iload_n v2 dX10_isFreeSet_20 rfl rfl ?_
      refine zq_VI (N := MX5_belowOf) (As := [.int v2]) m_X10_28 dX10_isFreeSet_21 rfl rfl (Nat.le_of_ble_eq_true rfl) h (fun x4 w3 h => ?_)
      refine z_iload_n v1 dX10_isFreeSet_24 rfl rfl ?_
      refine z_iand dX10_isFreeSet_25 ?_
      refine z_if_eq 31 dX10_isFreeSet_26 rfl (fun hc => ?_) (fun hc => ?_)
      · rw [if_pos hc] at h
        exact h
      · rw [if_neg hc] at h
        refine z_iconst 0 dX10_isFreeSet_29 rfl ?_
        exact z_ireturn .boolean dX10_isFreeSet_30 rfl rfl h
set_option maxRecDepth 100000 in
set_option maxHeartbeats 4000000 in
theorem bX10_isFreeSet_31 {X : zX} {d kc ks : Nat} {w : zW} {Q : Option Value → zW → Prop} (v0 : Nat) (v1 : Int32) (v2 : Int32)
    (h : zRn X d kc ks MX10_isFreeSet 2 [some (.ref v0), some (.int v1), some (.int (v2 + 1))] [] w Q) :
    zRn X d kc ks MX10_isFreeSet 31 [some (.ref v0), some (.int v1), some (.int v2)] [] w Q := by
  refine z_iinc (i := 2) v2 (v2 + 1) dX10_isFreeSet_31 rfl rfl (by decide) rfl ?_
  refine z_goto 2 dX10_isFreeSet_34 rfl ?_
  exact h
theorem eX10_isFreeSet {X : zX} {d kc ks : Nat} {w : zW} {Q : Option Value → zW → Prop} (p0 : Nat) (a1 : Int32) (h : zRn X d kc ks MX10_isFreeSet 0 [some (.ref p0), some (.int a1), none] [] w Q) : zEv X d kc ks MX10_isFreeSet [.ref p0, .int a1] w Q :=
  zEv.of (by decide) (Nat.le_of_ble_eq_true rfl) (Or.inr (by simp [Value.category])) h
set_option maxRecDepth 100000 in
set_option maxHeartbeats 4000000 in
theorem bX10_ideals_0 {X : zX} {d kc ks : Nat} {w : zW} {Q : Option Value → zW → Prop} (p0 : Nat)
    (h : zRn X d kc ks MX10_ideals 4 [some (.ref p0), some (.int 0), some (.int 0)] [] w Q) :
    zRn X d kc ks MX10_ideals 0 [some (.ref p0), none, none] [] w Q := by
  refine z_iconst 0 dX10_ideals_0 rfl ?_
  refine z_istore_n (i := 1) dX10_ideals_1 rfl (by decide) rfl ?_
  refine z_iconst 0 dX10_ideals_2 rfl ?_
  refine z_istore_n (i := 2) dX10_ideals_3 rfl (by decide) rfl ?_
  exact h
set_option maxRecDepth 100000 in
set_option maxHeartbeats 4000000 in
theorem bX10_ideals_4 {X : zX} {d kc ks : Nat} {w : zW} {Q : Option Value → zW → Prop} (v0 : Nat) (v1 : Int32) (v2 : Int32)
    (h : zIs w v0 5 ∧ zCallI X d MX5_all [.ref v0] w (fun x2 w1 => if x2 < v2 then (Q (some (.int v1)) w1) else (zIs w1 v0 5 ∧ zCallI X d MX5_isIdeal [.ref v0, .int v2] w1 (fun x4 w3 => if x4 = 0 then (zRn X d kc ks MX10_ideals 23 [some (.ref v0), some (.int v1), some (.int v2)] [] w3 Q) else (zRn X d kc ks MX10_ideals 23 [some (.ref v0), some (.int (v1 + 1)), some (.int v2)] [] w3 Q))))) :
    zRn X d kc ks MX10_ideals 4 [some (.ref v0), some (.int v1), some (.int v2)] [] w Q := by
  refine z_iload_n v2 dX10_ideals_4 rfl rfl ?_
  refine z_aload_n v0 dX10_ideals_5 rfl rfl ?_
  refine zq_VI (N := MX5_all) (As := []) m_X10_7 dX10_ideals_6 rfl rfl (Nat.le_of_ble_eq_true rfl) h (fun x2 w1 h => ?_)
  refine z_icmp_gt 29 dX10_ideals_9 rfl (fun hc => ?_) (fun hc => ?_)
  · rw [if_pos hc] at h
    refine z_iload_n v1 dX10_ideals_29 rfl rfl ?_
    exact z_ireturn .int dX10_ideals_30 rfl rfl h
  · rw [if_neg hc] at h
    refine z_aload_n v0 dX10_ideals_12 rfl rfl ?_
    refine z_iload_n v2 dX10_ideals_13 rfl rfl ?_
    refine zq_VI (N := MX5_isIdeal) (As := [.int v2]) m_X10_31 dX10_ideals_14 rfl rfl (Nat.le_of_ble_eq_true rfl) h (fun x4 w3 h => ?_)
    refine z_if_eq 23 dX10_ideals_17 rfl (fun hc => ?_) (fun hc => ?_)
    · rw [if_pos hc] at h
      exact h
    · rw [if_neg hc] at h
      refine z_iinc (i := 1) v1 (v1 + 1) dX10_ideals_20 rfl rfl (by decide) rfl ?_
      exact h
set_option maxRecDepth 100000 in
set_option maxHeartbeats 4000000 in
theorem bX10_ideals_23 {X : zX} {d kc ks : Nat} {w : zW} {Q : Option Value → zW → Prop} (v0 : Nat) (v1 : Int32) (v2 : Int32)
    (h : zRn X d kc ks MX10_ideals 4 [some (.ref v0), some (.int v1), some (.int (v2 + 1))] [] w Q) :
    zRn X d kc ks MX10_ideals 23 [some (.ref v0), some (.int v1), some (.int v2)] [] w Q := by
  refine z_iinc (i := 2) v2 (v2 + 1) dX10_ideals_23 rfl rfl (by decide) rfl ?_
  refine z_goto 4 dX10_ideals_26 rfl ?_
  exact h
theorem eX10_ideals {X : zX} {d kc ks : Nat} {w : zW} {Q : Option Value → zW → Prop} (p0 : Nat) (h : zRn X d kc ks MX10_ideals 0 [some (.ref p0), none, none] [] w Q) : zEv X d kc ks MX10_ideals [.ref p0] w Q :=
  zEv.of (by decide) (Nat.le_of_ble_eq_true rfl) (Or.inr (by simp [Value.category])) h
set_option maxRecDepth 100000 in
set_option maxHeartbeats 4000000 in
theorem bX10_hangingParts_0 {X : zX} {d kc ks : Nat} {w : zW} {Q : Option Value → zW → Prop} (p0 : Nat)
    (h : zRn X d kc ks MX10_hangingParts 6 [some (.ref p0), some (.int 0), some (.int 0), some (.int 0)] [] w Q) :
    zRn X d kc ks MX10_hangingParts 0 [some (.ref p0), none, none, none] [] w Q := by
  refine z_iconst 0 dX10_hangingParts_0 rfl ?_
  refine z_istore_n (i := 1) dX10_hangingParts_1 rfl (by decide) rfl ?_
  refine z_iconst 0 dX10_hangingParts_2 rfl ?_
  refine z_istore_n (i := 2) dX10_hangingParts_3 rfl (by decide) rfl ?_
  refine z_iconst 0 dX10_hangingParts_4 rfl ?_
  refine z_istore_n (i := 3) dX10_hangingParts_5 rfl (by decide) rfl ?_
  exact h
set_option maxRecDepth 100000 in
set_option maxHeartbeats 4000000 in
theorem bX10_hangingParts_6 {X : zX} {d kc ks : Nat} {w : zW} {Q : Option Value → zW → Prop} (v0 : Nat) (v1 : Int32) (v2 : Int32) (v3 : Int32)
    (h : zIs w v0 5 ∧ zCallI X d MX5_size [.ref v0] w (fun x2 w1 => if x2 ≤ v3 then (Q (some (.int v2)) w1) else (if ((v1 >>> (v3 &&& 31)) &&& 1) = 0 then (zCallI X d MX10_hangingWith [.ref v0, .int v3] w1 (fun x4 w3 => zRn X d kc ks MX10_hangingParts 33 [some (.ref v0), some (.int (v1 ||| x4)), some (.int (v2 + 1)), some (.int v3)] [] w3 Q)) else (zRn X d kc ks MX10_hangingParts 33 [some (.ref v0), some (.int v1), some (.int v2), some (.int v3)] [] w1 Q)))) :
    zRn X d kc ks MX10_hangingParts 6 [some (.ref v0), some (.int v1), some (.int v2), some (.int v3)] [] w Q := by
  refine z_iload_n v3 dX10_hangingParts_6 rfl rfl ?_
  refine z_aload_n v0 dX10_hangingParts_7 rfl rfl ?_
  refine zq_VI (N := MX5_size) (As := []) m_X10_25 dX10_hangingParts_8 rfl rfl (Nat.le_of_ble_eq_true rfl) h (fun x2 w1 h => ?_)
  refine z_icmp_ge 39 dX10_hangingParts_11 rfl (fun hc => ?_) (fun hc => ?_)
  · rw [if_pos hc] at h
    refine z_iload_n v2 dX10_hangingParts_39 rfl rfl ?_
    exact z_ireturn .int dX10_hangingParts_40 rfl rfl h
  · rw [if_neg hc] at h
    refine z_iload_n v1 dX10_hangingParts_14 rfl rfl ?_
    refine z_iload_n v3 dX10_hangingParts_15 rfl rfl ?_
    refine z_ishr dX10_hangingParts_16 ?_
    refine z_iconst 1 dX10_hangingParts_17 rfl ?_
    refine z_iand dX10_hangingParts_18 ?_
    refine z_if_ne 33 dX10_hangingParts_19 rfl (fun hc => ?_) (fun hc => ?_)
    · rw [if_neg hc] at h
      exact h
    · rw [if_pos hc] at h
      refine z_iload_n v1 dX10_hangingParts_22 rfl rfl ?_
      refine z_aload_n v0 dX10_hangingParts_23 rfl rfl ?_
      refine z_iload_n v3 dX10_hangingParts_24 rfl rfl ?_
      refine zq_SI (N := MX10_hangingWith) (As := [.ref v0, .int v3]) m_X10_35 dX10_hangingParts_25 rfl rfl (Nat.le_of_ble_eq_true rfl) h (fun x4 w3 h => ?_)
      refine z_ior dX10_hangingParts_28 ?_
      refine z_istore_n (i := 1) dX10_hangingParts_29 rfl (by decide) rfl ?_
      refine z_iinc (i := 2) v2 (v2 + 1) dX10_hangingParts_30 rfl rfl (by decide) rfl ?_
      exact h
set_option maxRecDepth 100000 in
set_option maxHeartbeats 4000000 in
theorem bX10_hangingParts_33 {X : zX} {d kc ks : Nat} {w : zW} {Q : Option Value → zW → Prop} (v0 : Nat) (v1 : Int32) (v2 : Int32) (v3 : Int32)
    (h : zRn X d kc ks MX10_hangingParts 6 [some (.ref v0), some (.int v1), some (.int v2), some (.int (v3 + 1))] [] w Q) :
    zRn X d kc ks MX10_hangingParts 33 [some (.ref v0), some (.int v1), some (.int v2), some (.int v3)] [] w Q := by
  refine z_iinc (i := 3) v3 (v3 + 1) dX10_hangingParts_33 rfl rfl (by decide) rfl ?_
  refine z_goto 6 dX10_hangingParts_36 rfl ?_
  exact h
theorem eX10_hangingParts {X : zX} {d kc ks : Nat} {w : zW} {Q : Option Value → zW → Prop} (p0 : Nat) (h : zRn X d kc ks MX10_hangingParts 0 [some (.ref p0), none, none, none] [] w Q) : zEv X d kc ks MX10_hangingParts [.ref p0] w Q :=
  zEv.of (by decide) (Nat.le_of_ble_eq_true rfl) (Or.inr (by simp [Value.category])) h
set_option maxRecDepth 100000 in
set_option maxHeartbeats 4000000 in
theorem bX10_hangingWith_0 {X : zX} {d kc ks : Nat} {w : zW} {Q : Option Value → zW → Prop} (p0 : Nat) (a1 : Int32)
    (h : zRn X d kc ks MX10_hangingWith 6 [some (.ref p0), none, some (.int ((1 : Int32) <<< (a1 &&& 31))), some (.int 0), none] [] w Q) :
    zRn X d kc ks MX10_hangingWith 0 [some (.ref p0), some (.int a1), none, none, none] [] w Q := by
  refine z_iconst 1 dX10_hangingWith_0 rfl ?_
  refine z_iload_n a1 dX10_hangingWith_1 rfl rfl ?_
  refine z_ishl dX10_hangingWith_2 ?_
  refine z_istore_n (i := 2) dX10_hangingWith_3 rfl (by decide) rfl ?_
  refine z_iconst 0 dX10_hangingWith_4 rfl ?_
  refine z_istore_n (i := 3) dX10_hangingWith_5 rfl (by decide) rfl ?_
  exact zRn.weak h (zLe_of [true, false, true, true, true] (And.intro rfl (And.intro rfl (And.intro rfl (And.intro rfl (And.intro rfl (trivial)))))))
set_option maxRecDepth 100000 in
set_option maxHeartbeats 4000000 in
theorem bX10_hangingWith_6 {X : zX} {d kc ks : Nat} {w : zW} {Q : Option Value → zW → Prop} (v0 : Nat) (v2 : Int32) (v3 : Int32)
    (h : zIs w v0 5 ∧ zCallI X d MX5_size [.ref v0] w (fun x2 w1 => if x2 ≤ v3 then (Q (some (.int v2)) w1) else (zRn X d kc ks MX10_hangingWith 17 [some (.ref v0), none, some (.int v2), some (.int v3), some (.int 0)] [] w1 Q))) :
    zRn X d kc ks MX10_hangingWith 6 [some (.ref v0), none, some (.int v2), some (.int v3), none] [] w Q := by
  refine z_iload_n v3 dX10_hangingWith_6 rfl rfl ?_
  refine z_aload_n v0 dX10_hangingWith_7 rfl rfl ?_
  refine zq_VI (N := MX5_size) (As := []) m_X10_25 dX10_hangingWith_8 rfl rfl (Nat.le_of_ble_eq_true rfl) h (fun x2 w1 h => ?_)
  refine z_icmp_ge 64 dX10_hangingWith_11 rfl (fun hc => ?_) (fun hc => ?_)
  · rw [if_pos hc] at h
    refine z_iload_n v2 dX10_hangingWith_64 rfl rfl ?_
    exact z_ireturn .int dX10_hangingWith_65 rfl rfl h
  · rw [if_neg hc] at h
    refine z_iconst 0 dX10_hangingWith_14 rfl ?_
    refine z_istore (i := 4) dX10_hangingWith_15 (by decide) rfl ?_
    exact h
set_option maxRecDepth 100000 in
set_option maxHeartbeats 4000000 in
theorem bX10_hangingWith_17 {X : zX} {d kc ks : Nat} {w : zW} {Q : Option Value → zW → Prop} (v0 : Nat) (v2 : Int32) (v3 : Int32) (v4 : Int32)
    (h : zIs w v0 5 ∧ zCallI X d MX5_size [.ref v0] w (fun x2 w1 => if x2 ≤ v4 then (zRn X d kc ks MX10_hangingWith 6 [some (.ref v0), none, some (.int v2), some (.int (v3 + 1)), none] [] w1 Q) else (if ((v2 >>> (v4 &&& 31)) &&& 1) = 1 then (zIs w1 v0 5 ∧ zCallI X d MX5_belowOf [.ref v0, .int v4] w1 (fun x4 w3 => zIs w3 v0 5 ∧ zCallI X d MX5_aboveOf [.ref v0, .int v4] w3 (fun x6 w5 => zRn X d kc ks MX10_hangingWith 52 [some (.ref v0), none, some (.int (v2 ||| (x4 ||| x6))), some (.int v3), some (.int v4)] [] w5 Q))) else (zRn X d kc ks MX10_hangingWith 52 [some (.ref v0), none, some (.int v2), some (.int v3), some (.int v4)] [] w1 Q)))) :
    zRn X d kc ks MX10_hangingWith 17 [some (.ref v0), none, some (.int v2), some (.int v3), some (.int v4)] [] w Q := by
  refine z_iload v4 dX10_hangingWith_17 rfl ?_
  refine z_aload_n v0 dX10_hangingWith_19 rfl rfl ?_
  refine zq_VI (N := MX5_size) (As := []) m_X10_25 dX10_hangingWith_20 rfl rfl (Nat.le_of_ble_eq_true rfl) h (fun x2 w1 h => ?_)
  refine z_icmp_ge 58 dX10_hangingWith_23 rfl (fun hc => ?_) (fun hc => ?_)
  · rw [if_pos hc] at h
    refine z_iinc (i := 3) v3 (v3 + 1) dX10_hangingWith_58 rfl rfl (by decide) rfl ?_
    refine z_goto 6 dX10_hangingWith_61 rfl ?_
    exact zRn.weak h (zLe_of [true, true, true, true, false] (And.intro rfl (And.intro rfl (And.intro rfl (And.intro rfl (And.intro rfl (trivial)))))))
  · rw [if_neg hc] at h
    refine z_iload_n v2 dX10_hangingWith_26 rfl rfl ?_
    refine z_iload v4 dX10_hangingWith_27 rfl ?_
    refine z_ishr dX10_hangingWith_29 ?_
    refine z_iconst 1 dX10_hangingWith_30 rfl ?_
    refine z_iand dX10_hangingWith_31 ?_
    refine z_iconst 1 dX10_hangingWith_32 rfl ?_
    refine z_icmp_ne 52 dX10_hangingWith_33 rfl (fun hc => ?_) (fun hc => ?_)
    · rw [if_neg hc] at h
      exact h
    · rw [if_pos hc] at h
      refine z_iload_n v2 dX10_hangingWith_36 rfl rfl ?_
      refine z_aload_n v0 dX10_hangingWith_37 rfl rfl ?_
      refine z_iload v4 dX10_hangingWith_38 rfl ?_
      refine zq_VI (N := MX5_belowOf) (As := [.int v4]) m_X10_28 dX10_hangingWith_40 rfl rfl (Nat.le_of_ble_eq_true rfl) h (fun x4 w3 h => ?_)
      refine z_aload_n v0 dX10_hangingWith_43 rfl rfl ?_
      refine z_iload v4 dX10_hangingWith_44 rfl ?_
      refine zq_VI (N := MX5_aboveOf) (As := [.int v4]) m_X10_39 dX10_hangingWith_46 rfl rfl (Nat.le_of_ble_eq_true rfl) h (fun x6 w5 h => ?_)
      refine z_ior dX10_hangingWith_49 ?_
      refine z_ior dX10_hangingWith_50 ?_
      refine z_istore_n (i := 2) dX10_hangingWith_51 rfl (by decide) rfl ?_
      exact h
set_option maxRecDepth 100000 in
set_option maxHeartbeats 4000000 in
theorem bX10_hangingWith_52 {X : zX} {d kc ks : Nat} {w : zW} {Q : Option Value → zW → Prop} (v0 : Nat) (v2 : Int32) (v3 : Int32) (v4 : Int32)
    (h : zRn X d kc ks MX10_hangingWith 17 [some (.ref v0), none, some (.int v2), some (.int v3), some (.int (v4 + 1))] [] w Q) :
    zRn X d kc ks MX10_hangingWith 52 [some (.ref v0), none, some (.int v2), some (.int v3), some (.int v4)] [] w Q := by
  refine z_iinc (i := 4) v4 (v4 + 1) dX10_hangingWith_52 rfl rfl (by decide) rfl ?_
  refine z_goto 17 dX10_hangingWith_55 rfl ?_
  exact h
theorem eX10_hangingWith {X : zX} {d kc ks : Nat} {w : zW} {Q : Option Value → zW → Prop} (p0 : Nat) (a1 : Int32) (h : zRn X d kc ks MX10_hangingWith 0 [some (.ref p0), some (.int a1), none, none, none] [] w Q) : zEv X d kc ks MX10_hangingWith [.ref p0, .int a1] w Q :=
  zEv.of (by decide) (Nat.le_of_ble_eq_true rfl) (Or.inr (by simp [Value.category])) h
set_option maxRecDepth 100000 in
set_option maxHeartbeats 4000000 in
theorem bX10_hasN_0 {X : zX} {d kc ks : Nat} {w : zW} {Q : Option Value → zW → Prop} (p0 : Nat)
    (h : zRn X d kc ks MX10_hasN 2 [some (.ref p0), some (.int 0), none] [] w Q) :
    zRn X d kc ks MX10_hasN 0 [some (.ref p0), none, none] [] w Q := by
  refine z_iconst 0 dX10_hasN_0 rfl ?_
  refine z_istore_n (i := 1) dX10_hasN_1 rfl (by decide) rfl ?_
  exact h
set_option maxRecDepth 100000 in
set_option maxHeartbeats 4000000 in
theorem bX10_hasN_2 {X : zX} {d kc ks : Nat} {w : zW} {Q : Option Value → zW → Prop} (v0 : Nat) (v1 : Int32)
    (h : zIs w v0 5 ∧ zCallI X d MX5_size [.ref v0] w (fun x2 w1 => if x2 ≤ v1 then (Q (some (.int 0)) w1) else (zRn X d kc ks MX10_hasN 12 [some (.ref v0), some (.int v1), some (.int 0)] [] w1 Q))) :
    zRn X d kc ks MX10_hasN 2 [some (.ref v0), some (.int v1), none] [] w Q := by
  refine z_iload_n v1 dX10_hasN_2 rfl rfl ?_
  refine z_aload_n v0 dX10_hasN_3 rfl rfl ?_
  refine zq_VI (N := MX5_size) (As := []) m_X10_25 dX10_hasN_4 rfl rfl (Nat.le_of_ble_eq_true rfl) h (fun x2 w1 h => ?_)
  refine z_icmp_ge 52 dX10_hasN_7 rfl (fun hc => ?_) (fun hc => ?_)
  · rw [if_pos hc] at h
    refine z_iconst 0 dX10_hasN_52 rfl ?_
    exact z_ireturn .boolean dX10_hasN_53 rfl rfl h
  · rw [if_neg hc] at h
    refine z_iconst 0 dX10_hasN_10 rfl ?_
    refine z_istore_n (i := 2) dX10_hasN_11 rfl (by decide) rfl ?_
    exact h
set_option maxRecDepth 100000 in
set_option maxHeartbeats 4000000 in
theorem bX10_hasN_12 {X : zX} {d kc ks : Nat} {w : zW} {Q : Option Value → zW → Prop} (v0 : Nat) (v1 : Int32) (v2 : Int32)
    (h : zIs w v0 5 ∧ zCallI X d MX5_size [.ref v0] w (fun x2 w1 => if x2 ≤ v2 then (zRn X d kc ks MX10_hasN 2 [some (.ref v0), some (.int (v1 + 1)), none] [] w1 Q) else (zIs w1 v0 5 ∧ zCallI X d MX5_under [.ref v0, .int v1, .int v2] w1 (fun x4 w3 => if x4 = 0 then (zRn X d kc ks MX10_hasN 40 [some (.ref v0), some (.int v1), some (.int v2)] [] w3 Q) else (zCallI X d MX10_isLeftOfN [.ref v0, .int v1, .int v2] w3 (fun x6 w5 => if x6 = 0 then (zRn X d kc ks MX10_hasN 40 [some (.ref v0), some (.int v1), some (.int v2)] [] w5 Q) else (Q (some (.int 1)) w5))))))) :
    zRn X d kc ks MX10_hasN 12 [some (.ref v0), some (.int v1), some (.int v2)] [] w Q := by
  refine z_iload_n v2 dX10_hasN_12 rfl rfl ?_
  refine z_aload_n v0 dX10_hasN_13 rfl rfl ?_
  refine zq_VI (N := MX5_size) (As := []) m_X10_25 dX10_hasN_14 rfl rfl (Nat.le_of_ble_eq_true rfl) h (fun x2 w1 h => ?_)
  refine z_icmp_ge 46 dX10_hasN_17 rfl (fun hc => ?_) (fun hc => ?_)
  · rw [if_pos hc] at h
    refine z_iinc (i := 1) v1 (v1 + 1) dX10_hasN_46 rfl rfl (by decide) rfl ?_
    refine z_goto 2 dX10_hasN_49 rfl ?_
    exact zRn.weak h (zLe_of [true, true, false] (And.intro rfl (And.intro rfl (And.intro rfl (trivial)))))
  · rw [if_neg hc] at h
    refine z_aload_n v0 dX10_hasN_20 rfl rfl ?_
    refine z_iload_n v1 dX10_hasN_21 rfl rfl ?_
    refine z_iload_n v2 dX10_hasN_22 rfl rfl ?_
    refine zq_VI (N := MX5_under) (As := [.int v1, .int v2]) m_X10_42 dX10_hasN_23 rfl rfl (Nat.le_of_ble_eq_true rfl) h (fun x4 w3 h => ?_)
    refine z_if_eq 40 dX10_hasN_26 rfl (fun hc => ?_) (fun hc => ?_)
    · rw [if_pos hc] at h
      exact h
    · rw [if_neg hc] at h
      refine z_aload_n v0 dX10_hasN_29 rfl rfl ?_
      refine z_iload_n v1 dX10_hasN_30 rfl rfl ?_
      refine z_iload_n v2 dX10_hasN_31 rfl rfl ?_
      refine zq_SI (N := MX10_isLeftOfN) (As := [.ref v0, .int v1, .int v2]) m_X10_46 dX10_hasN_32 rfl rfl (Nat.le_of_ble_eq_true rfl) h (fun x6 w5 h => ?_)
      refine z_if_eq 40 dX10_hasN_35 rfl (fun hc => ?_) (fun hc => ?_)
      · rw [if_pos hc] at h
        exact h
      · rw [if_neg hc] at h
        refine z_iconst 1 dX10_hasN_38 rfl ?_
        exact z_ireturn .boolean dX10_hasN_39 rfl rfl h
set_option maxRecDepth 100000 in
set_option maxHeartbeats 4000000 in
theorem bX10_hasN_40 {X : zX} {d kc ks : Nat} {w : zW} {Q : Option Value → zW → Prop} (v0 : Nat) (v1 : Int32) (v2 : Int32)
    (h : zRn X d kc ks MX10_hasN 12 [some (.ref v0), some (.int v1), some (.int (v2 + 1))] [] w Q) :
    zRn X d kc ks MX10_hasN 40 [some (.ref v0), some (.int v1), some (.int v2)] [] w Q := by
  refine z_iinc (i := 2) v2 (v2 + 1) dX10_hasN_40 rfl rfl (by decide) rfl ?_
  refine z_goto 12 dX10_hasN_43 rfl ?_
  exact h
theorem eX10_hasN {X : zX} {d kc ks : Nat} {w : zW} {Q : Option Value → zW → Prop} (p0 : Nat) (h : zRn X d kc ks MX10_hasN 0 [some (.ref p0), none, none] [] w Q) : zEv X d kc ks MX10_hasN [.ref p0] w Q :=
  zEv.of (by decide) (Nat.le_of_ble_eq_true rfl) (Or.inr (by simp [Value.category])) h
set_option maxRecDepth 100000 in
set_option maxHeartbeats 4000000 in
theorem bX10_isLeftOfN_0 {X : zX} {d kc ks : Nat} {w : zW} {Q : Option Value → zW → Prop} (p0 : Nat) (a1 : Int32) (a2 : Int32)
    (h : zIs w p0 5 ∧ zCallI X d MX5_belowOf [.ref p0, .int a2] w (fun x2 w1 => zIs w1 p0 5 ∧ zCallI X d MX5_freeOf [.ref p0, .int a1] w1 (fun x4 w3 => zIs w3 p0 5 ∧ zCallI X d MX5_freeOf [.ref p0, .int a1] w3 (fun x6 w5 => zIs w5 p0 5 ∧ zCallI X d MX5_freeOf [.ref p0, .int a2] w5 (fun x8 w7 => zRn X d kc ks MX10_isLeftOfN 28 [some (.ref p0), none, none, some (.int (x2 &&& x4)), some (.int (x6 &&& x8)), some (.int 0)] [] w7 Q))))) :
    zRn X d kc ks MX10_isLeftOfN 0 [some (.ref p0), some (.int a1), some (.int a2), none, none, none] [] w Q := by
  refine z_aload_n p0 dX10_isLeftOfN_0 rfl rfl ?_
  refine z_iload_n a2 dX10_isLeftOfN_1 rfl rfl ?_
  refine zq_VI (N := MX5_belowOf) (As := [.int a2]) m_X10_28 dX10_isLeftOfN_2 rfl rfl (Nat.le_of_ble_eq_true rfl) h (fun x2 w1 h => ?_)
  refine z_aload_n p0 dX10_isLeftOfN_5 rfl rfl ?_
  refine z_iload_n a1 dX10_isLeftOfN_6 rfl rfl ?_
  refine zq_VI (N := MX5_freeOf) (As := [.int a1]) m_X10_50 dX10_isLeftOfN_7 rfl rfl (Nat.le_of_ble_eq_true rfl) h (fun x4 w3 h => ?_)
  refine z_iand dX10_isLeftOfN_10 ?_
  refine z_istore_n (i := 3) dX10_isLeftOfN_11 rfl (by decide) rfl ?_
  refine z_aload_n p0 dX10_isLeftOfN_12 rfl rfl ?_
  refine z_iload_n a1 dX10_isLeftOfN_13 rfl rfl ?_
  refine zq_VI (N := MX5_freeOf) (As := [.int a1]) m_X10_50 dX10_isLeftOfN_14 rfl rfl (Nat.le_of_ble_eq_true rfl) h (fun x6 w5 h => ?_)
  refine z_aload_n p0 dX10_isLeftOfN_17 rfl rfl ?_
  refine z_iload_n a2 dX10_isLeftOfN_18 rfl rfl ?_
  refine zq_VI (N := MX5_freeOf) (As := [.int a2]) m_X10_50 dX10_isLeftOfN_19 rfl rfl (Nat.le_of_ble_eq_true rfl) h (fun x8 w7 h => ?_)
  refine z_iand dX10_isLeftOfN_22 ?_
  refine z_istore (i := 4) dX10_isLeftOfN_23 (by decide) rfl ?_
  refine z_iconst 0 dX10_isLeftOfN_25 rfl ?_
  refine z_istore (i := 5) dX10_isLeftOfN_26 (by decide) rfl ?_
  exact zRn.weak h (zLe_of [true, false, false, true, true, true] (And.intro rfl (And.intro rfl (And.intro rfl (And.intro rfl (And.intro rfl (And.intro rfl (trivial))))))))
set_option maxRecDepth 100000 in
set_option maxHeartbeats 4000000 in
theorem bX10_isLeftOfN_28 {X : zX} {d kc ks : Nat} {w : zW} {Q : Option Value → zW → Prop} (v0 : Nat) (v3 : Int32) (v4 : Int32) (v5 : Int32)
    (h : zIs w v0 5 ∧ zCallI X d MX5_size [.ref v0] w (fun x2 w1 => if x2 ≤ v5 then (Q (some (.int 0)) w1) else (if ((v3 >>> (v5 &&& 31)) &&& 1) = 1 then (zIs w1 v0 5 ∧ zCallI X d MX5_aboveOf [.ref v0, .int v5] w1 (fun x4 w3 => if (x4 &&& v4) = 0 then (zRn X d kc ks MX10_isLeftOfN 61 [some (.ref v0), none, none, some (.int v3), some (.int v4), some (.int v5)] [] w3 Q) else (Q (some (.int 1)) w3))) else (zRn X d kc ks MX10_isLeftOfN 61 [some (.ref v0), none, none, some (.int v3), some (.int v4), some (.int v5)] [] w1 Q)))) :
    zRn X d kc ks MX10_isLeftOfN 28 [some (.ref v0), none, none, some (.int v3), some (.int v4), some (.int v5)] [] w Q := by
  refine z_iload v5 dX10_isLeftOfN_28 rfl ?_
  refine z_aload_n v0 dX10_isLeftOfN_30 rfl rfl ?_
  refine zq_VI (N := MX5_size) (As := []) m_X10_25 dX10_isLeftOfN_31 rfl rfl (Nat.le_of_ble_eq_true rfl) h (fun x2 w1 h => ?_)
  refine z_icmp_ge 67 dX10_isLeftOfN_34 rfl (fun hc => ?_) (fun hc => ?_)
  · rw [if_pos hc] at h
    refine z_iconst 0 dX10_isLeftOfN_67 rfl ?_
    exact z_ireturn .boolean dX10_isLeftOfN_68 rfl rfl h
  · rw [if_neg hc] at h
    refine z_iload_n v3 dX10_isLeftOfN_37 rfl rfl ?_
    refine z_iload v5 dX10_isLeftOfN_38 rfl ?_
    refine z_ishr dX10_isLeftOfN_40 ?_
    refine z_iconst 1 dX10_isLeftOfN_41 rfl ?_
    refine z_iand dX10_isLeftOfN_42 ?_
    refine z_iconst 1 dX10_isLeftOfN_43 rfl ?_
    refine z_icmp_ne 61 dX10_isLeftOfN_44 rfl (fun hc => ?_) (fun hc => ?_)
    · rw [if_neg hc] at h
      exact h
    · rw [if_pos hc] at h
      refine z_aload_n v0 dX10_isLeftOfN_47 rfl rfl ?_
      refine z_iload v5 dX10_isLeftOfN_48 rfl ?_
      refine zq_VI (N := MX5_aboveOf) (As := [.int v5]) m_X10_39 dX10_isLeftOfN_50 rfl rfl (Nat.le_of_ble_eq_true rfl) h (fun x4 w3 h => ?_)
      refine z_iload v4 dX10_isLeftOfN_53 rfl ?_
      refine z_iand dX10_isLeftOfN_55 ?_
      refine z_if_eq 61 dX10_isLeftOfN_56 rfl (fun hc => ?_) (fun hc => ?_)
      · rw [if_pos hc] at h
        exact h
      · rw [if_neg hc] at h
        refine z_iconst 1 dX10_isLeftOfN_59 rfl ?_
        exact z_ireturn .boolean dX10_isLeftOfN_60 rfl rfl h
set_option maxRecDepth 100000 in
set_option maxHeartbeats 4000000 in
theorem bX10_isLeftOfN_61 {X : zX} {d kc ks : Nat} {w : zW} {Q : Option Value → zW → Prop} (v0 : Nat) (v3 : Int32) (v4 : Int32) (v5 : Int32)
    (h : zRn X d kc ks MX10_isLeftOfN 28 [some (.ref v0), none, none, some (.int v3), some (.int v4), some (.int (v5 + 1))] [] w Q) :
    zRn X d kc ks MX10_isLeftOfN 61 [some (.ref v0), none, none, some (.int v3), some (.int v4), some (.int v5)] [] w Q := by
  refine z_iinc (i := 5) v5 (v5 + 1) dX10_isLeftOfN_61 rfl rfl (by decide) rfl ?_
  refine z_goto 28 dX10_isLeftOfN_64 rfl ?_
  exact h
theorem eX10_isLeftOfN {X : zX} {d kc ks : Nat} {w : zW} {Q : Option Value → zW → Prop} (p0 : Nat) (a1 : Int32) (a2 : Int32) (h : zRn X d kc ks MX10_isLeftOfN 0 [some (.ref p0), some (.int a1), some (.int a2), none, none, none] [] w Q) : zEv X d kc ks MX10_isLeftOfN [.ref p0, .int a1, .int a2] w Q :=
  zEv.of (by decide) (Nat.le_of_ble_eq_true rfl) (Or.inr (by simp [Value.category])) h
set_option maxRecDepth 100000 in
set_option maxHeartbeats 4000000 in
theorem bX10_hasTwoAndTwo_0 {X : zX} {d kc ks : Nat} {w : zW} {Q : Option Value → zW → Prop} (p0 : Nat)
    (h : zRn X d kc ks MX10_hasTwoAndTwo 2 [some (.ref p0), some (.int 0), none, none] [] w Q) :
    zRn X d kc ks MX10_hasTwoAndTwo 0 [some (.ref p0), none, none, none] [] w Q := by
  refine z_iconst 0 dX10_hasTwoAndTwo_0 rfl ?_
  refine z_istore_n (i := 1) dX10_hasTwoAndTwo_1 rfl (by decide) rfl ?_
  exact h
set_option maxRecDepth 100000 in
set_option maxHeartbeats 4000000 in
theorem bX10_hasTwoAndTwo_2 {X : zX} {d kc ks : Nat} {w : zW} {Q : Option Value → zW → Prop} (v0 : Nat) (v1 : Int32)
    (h : zIs w v0 5 ∧ zCallI X d MX5_size [.ref v0] w (fun x2 w1 => if x2 ≤ v1 then (Q (some (.int 0)) w1) else (zRn X d kc ks MX10_hasTwoAndTwo 12 [some (.ref v0), some (.int v1), some (.int 0), none] [] w1 Q))) :
    zRn X d kc ks MX10_hasTwoAndTwo 2 [some (.ref v0), some (.int v1), none, none] [] w Q := by
  refine z_iload_n v1 dX10_hasTwoAndTwo_2 rfl rfl ?_
  refine z_aload_n v0 dX10_hasTwoAndTwo_3 rfl rfl ?_
  refine zq_VI (N := MX5_size) (As := []) m_X10_25 dX10_hasTwoAndTwo_4 rfl rfl (Nat.le_of_ble_eq_true rfl) h (fun x2 w1 h => ?_)
  refine z_icmp_ge 63 dX10_hasTwoAndTwo_7 rfl (fun hc => ?_) (fun hc => ?_)
  · rw [if_pos hc] at h
    refine z_iconst 0 dX10_hasTwoAndTwo_63 rfl ?_
    exact z_ireturn .boolean dX10_hasTwoAndTwo_64 rfl rfl h
  · rw [if_neg hc] at h
    refine z_iconst 0 dX10_hasTwoAndTwo_10 rfl ?_
    refine z_istore_n (i := 2) dX10_hasTwoAndTwo_11 rfl (by decide) rfl ?_
    exact h
set_option maxRecDepth 100000 in
set_option maxHeartbeats 4000000 in
theorem bX10_hasTwoAndTwo_12 {X : zX} {d kc ks : Nat} {w : zW} {Q : Option Value → zW → Prop} (v0 : Nat) (v1 : Int32) (v2 : Int32)
    (h : zIs w v0 5 ∧ zCallI X d MX5_size [.ref v0] w (fun x2 w1 => if x2 ≤ v2 then (zRn X d kc ks MX10_hasTwoAndTwo 2 [some (.ref v0), some (.int (v1 + 1)), none, none] [] w1 Q) else (zIs w1 v0 5 ∧ zCallI X d MX5_freeOf [.ref v0, .int v1] w1 (fun x4 w3 => zIs w3 v0 5 ∧ zCallI X d MX5_freeOf [.ref v0, .int v2] w3 (fun x6 w5 => zIs w5 v0 5 ∧ zCallI X d MX5_under [.ref v0, .int v1, .int v2] w5 (fun x8 w7 => if x8 = 0 then (zRn X d kc ks MX10_hasTwoAndTwo 51 [some (.ref v0), some (.int v1), some (.int v2), none] [] w7 Q) else (zCallI X d MX10_isFreeSet [.ref v0, .int (x4 &&& x6)] w7 (fun x10 w9 => if x10 = 0 then (Q (some (.int 1)) w9) else (zRn X d kc ks MX10_hasTwoAndTwo 51 [some (.ref v0), some (.int v1), some (.int v2), none] [] w9 Q))))))))) :
    zRn X d kc ks MX10_hasTwoAndTwo 12 [some (.ref v0), some (.int v1), some (.int v2), none] [] w Q := by
  refine z_iload_n v2 dX10_hasTwoAndTwo_12 rfl rfl ?_
  refine z_aload_n v0 dX10_hasTwoAndTwo_13 rfl rfl ?_
  refine zq_VI (N := MX5_size) (As := []) m_X10_25 dX10_hasTwoAndTwo_14 rfl rfl (Nat.le_of_ble_eq_true rfl) h (fun x2 w1 h => ?_)
  refine z_icmp_ge 57 dX10_hasTwoAndTwo_17 rfl (fun hc => ?_) (fun hc => ?_)
  · rw [if_pos hc] at h
    refine z_iinc (i := 1) v1 (v1 + 1) dX10_hasTwoAndTwo_57 rfl rfl (by decide) rfl ?_
    refine z_goto 2 dX10_hasTwoAndTwo_60 rfl ?_
    exact zRn.weak h (zLe_of [true, true, false, true] (And.intro rfl (And.intro rfl (And.intro rfl (And.intro rfl (trivial))))))
  · rw [if_neg hc] at h
    refine z_aload_n v0 dX10_hasTwoAndTwo_20 rfl rfl ?_
    refine z_iload_n v1 dX10_hasTwoAndTwo_21 rfl rfl ?_
    refine zq_VI (N := MX5_freeOf) (As := [.int v1]) m_X10_50 dX10_hasTwoAndTwo_22 rfl rfl (Nat.le_of_ble_eq_true rfl) h (fun x4 w3 h => ?_)
    refine z_aload_n v0 dX10_hasTwoAndTwo_25 rfl rfl ?_
    refine z_iload_n v2 dX10_hasTwoAndTwo_26 rfl rfl ?_
    refine zq_VI (N := MX5_freeOf) (As := [.int v2]) m_X10_50 dX10_hasTwoAndTwo_27 rfl rfl (Nat.le_of_ble_eq_true rfl) h (fun x6 w5 h => ?_)
    refine z_iand dX10_hasTwoAndTwo_30 ?_
    refine z_istore_n (i := 3) dX10_hasTwoAndTwo_31 rfl (by decide) rfl ?_
    refine z_aload_n v0 dX10_hasTwoAndTwo_32 rfl rfl ?_
    refine z_iload_n v1 dX10_hasTwoAndTwo_33 rfl rfl ?_
    refine z_iload_n v2 dX10_hasTwoAndTwo_34 rfl rfl ?_
    refine zq_VI (N := MX5_under) (As := [.int v1, .int v2]) m_X10_42 dX10_hasTwoAndTwo_35 rfl rfl (Nat.le_of_ble_eq_true rfl) h (fun x8 w7 h => ?_)
    refine z_if_eq 51 dX10_hasTwoAndTwo_38 rfl (fun hc => ?_) (fun hc => ?_)
    · rw [if_pos hc] at h
      exact zRn.weak h (zLe_of [true, true, true, false] (And.intro rfl (And.intro rfl (And.intro rfl (And.intro rfl (trivial))))))
    · rw [if_neg hc] at h
      refine z_aload_n v0 dX10_hasTwoAndTwo_41 rfl rfl ?_
      refine z_iload_n (x4 &&& x6) dX10_hasTwoAndTwo_42 rfl rfl ?_
      refine zq_SI (N := MX10_isFreeSet) (As := [.ref v0, .int (x4 &&& x6)]) m_X10_19 dX10_hasTwoAndTwo_43 rfl rfl (Nat.le_of_ble_eq_true rfl) h (fun x10 w9 h => ?_)
      refine z_if_ne 51 dX10_hasTwoAndTwo_46 rfl (fun hc => ?_) (fun hc => ?_)
      · rw [if_neg hc] at h
        exact zRn.weak h (zLe_of [true, true, true, false] (And.intro rfl (And.intro rfl (And.intro rfl (And.intro rfl (trivial))))))
      · rw [if_pos hc] at h
        refine z_iconst 1 dX10_hasTwoAndTwo_49 rfl ?_
        exact z_ireturn .boolean dX10_hasTwoAndTwo_50 rfl rfl h
set_option maxRecDepth 100000 in
set_option maxHeartbeats 4000000 in
theorem bX10_hasTwoAndTwo_51 {X : zX} {d kc ks : Nat} {w : zW} {Q : Option Value → zW → Prop} (v0 : Nat) (v1 : Int32) (v2 : Int32)
    (h : zRn X d kc ks MX10_hasTwoAndTwo 12 [some (.ref v0), some (.int v1), some (.int (v2 + 1)), none] [] w Q) :
    zRn X d kc ks MX10_hasTwoAndTwo 51 [some (.ref v0), some (.int v1), some (.int v2), none] [] w Q := by
  refine z_iinc (i := 2) v2 (v2 + 1) dX10_hasTwoAndTwo_51 rfl rfl (by decide) rfl ?_
  refine z_goto 12 dX10_hasTwoAndTwo_54 rfl ?_
  exact h
theorem eX10_hasTwoAndTwo {X : zX} {d kc ks : Nat} {w : zW} {Q : Option Value → zW → Prop} (p0 : Nat) (h : zRn X d kc ks MX10_hasTwoAndTwo 0 [some (.ref p0), none, none, none] [] w Q) : zEv X d kc ks MX10_hasTwoAndTwo [.ref p0] w Q :=
  zEv.of (by decide) (Nat.le_of_ble_eq_true rfl) (Or.inr (by simp [Value.category])) h
set_option maxRecDepth 100000 in
set_option maxHeartbeats 4000000 in
theorem bX10_hasThreeAndOne_0 {X : zX} {d kc ks : Nat} {w : zW} {Q : Option Value → zW → Prop} (p0 : Nat)
    (h : zRn X d kc ks MX10_hasThreeAndOne 2 [some (.ref p0), some (.int 0), none, none, none] [] w Q) :
    zRn X d kc ks MX10_hasThreeAndOne 0 [some (.ref p0), none, none, none, none] [] w Q := by
  refine z_iconst 0 dX10_hasThreeAndOne_0 rfl ?_
  refine z_istore_n (i := 1) dX10_hasThreeAndOne_1 rfl (by decide) rfl ?_
  exact h
set_option maxRecDepth 100000 in
set_option maxHeartbeats 4000000 in
theorem bX10_hasThreeAndOne_2 {X : zX} {d kc ks : Nat} {w : zW} {Q : Option Value → zW → Prop} (v0 : Nat) (v1 : Int32)
    (h : zIs w v0 5 ∧ zCallI X d MX5_size [.ref v0] w (fun x2 w1 => if x2 ≤ v1 then (Q (some (.int 0)) w1) else (zRn X d kc ks MX10_hasThreeAndOne 12 [some (.ref v0), some (.int v1), some (.int 0), none, none] [] w1 Q))) :
    zRn X d kc ks MX10_hasThreeAndOne 2 [some (.ref v0), some (.int v1), none, none, none] [] w Q := by
  refine z_iload_n v1 dX10_hasThreeAndOne_2 rfl rfl ?_
  refine z_aload_n v0 dX10_hasThreeAndOne_3 rfl rfl ?_
  refine zq_VI (N := MX5_size) (As := []) m_X10_25 dX10_hasThreeAndOne_4 rfl rfl (Nat.le_of_ble_eq_true rfl) h (fun x2 w1 h => ?_)
  refine z_icmp_ge 92 dX10_hasThreeAndOne_7 rfl (fun hc => ?_) (fun hc => ?_)
  · rw [if_pos hc] at h
    refine z_iconst 0 dX10_hasThreeAndOne_92 rfl ?_
    exact z_ireturn .boolean dX10_hasThreeAndOne_93 rfl rfl h
  · rw [if_neg hc] at h
    refine z_iconst 0 dX10_hasThreeAndOne_10 rfl ?_
    refine z_istore_n (i := 2) dX10_hasThreeAndOne_11 rfl (by decide) rfl ?_
    exact h
set_option maxRecDepth 100000 in
set_option maxHeartbeats 4000000 in
theorem bX10_hasThreeAndOne_12 {X : zX} {d kc ks : Nat} {w : zW} {Q : Option Value → zW → Prop} (v0 : Nat) (v1 : Int32) (v2 : Int32)
    (h : zIs w v0 5 ∧ zCallI X d MX5_size [.ref v0] w (fun x2 w1 => if x2 ≤ v2 then (zRn X d kc ks MX10_hasThreeAndOne 2 [some (.ref v0), some (.int (v1 + 1)), none, none, none] [] w1 Q) else (zRn X d kc ks MX10_hasThreeAndOne 22 [some (.ref v0), some (.int v1), some (.int v2), some (.int 0), none] [] w1 Q))) :
    zRn X d kc ks MX10_hasThreeAndOne 12 [some (.ref v0), some (.int v1), some (.int v2), none, none] [] w Q := by
  refine z_iload_n v2 dX10_hasThreeAndOne_12 rfl rfl ?_
  refine z_aload_n v0 dX10_hasThreeAndOne_13 rfl rfl ?_
  refine zq_VI (N := MX5_size) (As := []) m_X10_25 dX10_hasThreeAndOne_14 rfl rfl (Nat.le_of_ble_eq_true rfl) h (fun x2 w1 h => ?_)
  refine z_icmp_ge 86 dX10_hasThreeAndOne_17 rfl (fun hc => ?_) (fun hc => ?_)
  · rw [if_pos hc] at h
    refine z_iinc (i := 1) v1 (v1 + 1) dX10_hasThreeAndOne_86 rfl rfl (by decide) rfl ?_
    refine z_goto 2 dX10_hasThreeAndOne_89 rfl ?_
    exact zRn.weak h (zLe_of [true, true, false, true, true] (And.intro rfl (And.intro rfl (And.intro rfl (And.intro rfl (And.intro rfl (trivial)))))))
  · rw [if_neg hc] at h
    refine z_iconst 0 dX10_hasThreeAndOne_20 rfl ?_
    refine z_istore_n (i := 3) dX10_hasThreeAndOne_21 rfl (by decide) rfl ?_
    exact h
set_option maxRecDepth 100000 in
set_option maxHeartbeats 4000000 in
theorem bX10_hasThreeAndOne_22 {X : zX} {d kc ks : Nat} {w : zW} {Q : Option Value → zW → Prop} (v0 : Nat) (v1 : Int32) (v2 : Int32) (v3 : Int32)
    (h : zIs w v0 5 ∧ zCallI X d MX5_size [.ref v0] w (fun x2 w1 => if x2 ≤ v3 then (zRn X d kc ks MX10_hasThreeAndOne 12 [some (.ref v0), some (.int v1), some (.int (v2 + 1)), none, none] [] w1 Q) else (zIs w1 v0 5 ∧ zCallI X d MX5_freeOf [.ref v0, .int v2] w1 (fun x4 w3 => zIs w3 v0 5 ∧ zCallI X d MX5_freeOf [.ref v0, .int v1] w3 (fun x6 w5 => zIs w5 v0 5 ∧ zCallI X d MX5_freeOf [.ref v0, .int v3] w5 (fun x8 w7 => zIs w7 v0 5 ∧ zCallI X d MX5_under [.ref v0, .int v2, .int v1] w7 (fun x10 w9 => if x10 = 0 then (zRn X d kc ks MX10_hasThreeAndOne 74 [some (.ref v0), some (.int v1), some (.int v2), some (.int v3), none] [] w9 Q) else (zIs w9 v0 5 ∧ zCallI X d MX5_under [.ref v0, .int v1, .int v3] w9 (fun x12 w11 => if x12 = 0 then (zRn X d kc ks MX10_hasThreeAndOne 74 [some (.ref v0), some (.int v1), some (.int v2), some (.int v3), none] [] w11 Q) else (if ((x4 &&& x6) &&& x8) = 0 then (zRn X d kc ks MX10_hasThreeAndOne 74 [some (.ref v0), some (.int v1), some (.int v2), some (.int v3), none] [] w11 Q) else (Q (some (.int 1)) w11))))))))))) :
    zRn X d kc ks MX10_hasThreeAndOne 22 [some (.ref v0), some (.int v1), some (.int v2), some (.int v3), none] [] w Q := by
  refine z_iload_n v3 dX10_hasThreeAndOne_22 rfl rfl ?_
  refine z_aload_n v0 dX10_hasThreeAndOne_23 rfl rfl ?_
  refine zq_VI (N := MX5_size) (As := []) m_X10_25 dX10_hasThreeAndOne_24 rfl rfl (Nat.le_of_ble_eq_true rfl) h (fun x2 w1 h => ?_)
  refine z_icmp_ge 80 dX10_hasThreeAndOne_27 rfl (fun hc => ?_) (fun hc => ?_)
  · rw [if_pos hc] at h
    refine z_iinc (i := 2) v2 (v2 + 1) dX10_hasThreeAndOne_80 rfl rfl (by decide) rfl ?_
    refine z_goto 12 dX10_hasThreeAndOne_83 rfl ?_
    exact zRn.weak h (zLe_of [true, true, true, false, true] (And.intro rfl (And.intro rfl (And.intro rfl (And.intro rfl (And.intro rfl (trivial)))))))
  · rw [if_neg hc] at h
    refine z_aload_n v0 dX10_hasThreeAndOne_30 rfl rfl ?_
    refine z_iload_n v2 dX10_hasThreeAndOne_31 rfl rfl ?_
    refine zq_VI (N := MX5_freeOf) (As := [.int v2]) m_X10_50 dX10_hasThreeAndOne_32 rfl rfl (Nat.le_of_ble_eq_true rfl) h (fun x4 w3 h => ?_)
    refine z_aload_n v0 dX10_hasThreeAndOne_35 rfl rfl ?_
    refine z_iload_n v1 dX10_hasThreeAndOne_36 rfl rfl ?_
    refine zq_VI (N := MX5_freeOf) (As := [.int v1]) m_X10_50 dX10_hasThreeAndOne_37 rfl rfl (Nat.le_of_ble_eq_true rfl) h (fun x6 w5 h => ?_)
    refine z_iand dX10_hasThreeAndOne_40 ?_
    refine z_aload_n v0 dX10_hasThreeAndOne_41 rfl rfl ?_
    refine z_iload_n v3 dX10_hasThreeAndOne_42 rfl rfl ?_
    refine zq_VI (N := MX5_freeOf) (As := [.int v3]) m_X10_50 dX10_hasThreeAndOne_43 rfl rfl (Nat.le_of_ble_eq_true rfl) h (fun x8 w7 h => ?_)
    refine z_iand dX10_hasThreeAndOne_46 ?_
    refine z_istore (i := 4) dX10_hasThreeAndOne_47 (by decide) rfl ?_
    refine z_aload_n v0 dX10_hasThreeAndOne_49 rfl rfl ?_
    refine z_iload_n v2 dX10_hasThreeAndOne_50 rfl rfl ?_
    refine z_iload_n v1 dX10_hasThreeAndOne_51 rfl rfl ?_
    refine zq_VI (N := MX5_under) (As := [.int v2, .int v1]) m_X10_42 dX10_hasThreeAndOne_52 rfl rfl (Nat.le_of_ble_eq_true rfl) h (fun x10 w9 h => ?_)
    refine z_if_eq 74 dX10_hasThreeAndOne_55 rfl (fun hc => ?_) (fun hc => ?_)
    · rw [if_pos hc] at h
      exact zRn.weak h (zLe_of [true, true, true, true, false] (And.intro rfl (And.intro rfl (And.intro rfl (And.intro rfl (And.intro rfl (trivial)))))))
    · rw [if_neg hc] at h
      refine z_aload_n v0 dX10_hasThreeAndOne_58 rfl rfl ?_
      refine z_iload_n v1 dX10_hasThreeAndOne_59 rfl rfl ?_
      refine z_iload_n v3 dX10_hasThreeAndOne_60 rfl rfl ?_
      refine zq_VI (N := MX5_under) (As := [.int v1, .int v3]) m_X10_42 dX10_hasThreeAndOne_61 rfl rfl (Nat.le_of_ble_eq_true rfl) h (fun x12 w11 h => ?_)
      refine z_if_eq 74 dX10_hasThreeAndOne_64 rfl (fun hc => ?_) (fun hc => ?_)
      · rw [if_pos hc] at h
        exact zRn.weak h (zLe_of [true, true, true, true, false] (And.intro rfl (And.intro rfl (And.intro rfl (And.intro rfl (And.intro rfl (trivial)))))))
      · rw [if_neg hc] at h
        refine z_iload ((x4 &&& x6) &&& x8) dX10_hasThreeAndOne_67 rfl ?_
        refine z_if_eq 74 dX10_hasThreeAndOne_69 rfl (fun hc => ?_) (fun hc => ?_)
        · rw [if_pos hc] at h
          exact zRn.weak h (zLe_of [true, true, true, true, false] (And.intro rfl (And.intro rfl (And.intro rfl (And.intro rfl (And.intro rfl (trivial)))))))
        · rw [if_neg hc] at h
          refine z_iconst 1 dX10_hasThreeAndOne_72 rfl ?_
          exact z_ireturn .boolean dX10_hasThreeAndOne_73 rfl rfl h
set_option maxRecDepth 100000 in
set_option maxHeartbeats 4000000 in
theorem bX10_hasThreeAndOne_74 {X : zX} {d kc ks : Nat} {w : zW} {Q : Option Value → zW → Prop} (v0 : Nat) (v1 : Int32) (v2 : Int32) (v3 : Int32)
    (h : zRn X d kc ks MX10_hasThreeAndOne 22 [some (.ref v0), some (.int v1), some (.int v2), some (.int (v3 + 1)), none] [] w Q) :
    zRn X d kc ks MX10_hasThreeAndOne 74 [some (.ref v0), some (.int v1), some (.int v2), some (.int v3), none] [] w Q := by
  refine z_iinc (i := 3) v3 (v3 + 1) dX10_hasThreeAndOne_74 rfl rfl (by decide) rfl ?_
  refine z_goto 22 dX10_hasThreeAndOne_77 rfl ?_
  exact h
theorem eX10_hasThreeAndOne {X : zX} {d kc ks : Nat} {w : zW} {Q : Option Value → zW → Prop} (p0 : Nat) (h : zRn X d kc ks MX10_hasThreeAndOne 0 [some (.ref p0), none, none, none, none] [] w Q) : zEv X d kc ks MX10_hasThreeAndOne [.ref p0] w Q :=
  zEv.of (by decide) (Nat.le_of_ble_eq_true rfl) (Or.inr (by simp [Value.category])) h
set_option maxRecDepth 100000 in
set_option maxHeartbeats 4000000 in
theorem bX10_isLattice_0 {X : zX} {d kc ks : Nat} {w : zW} {Q : Option Value → zW → Prop} (p0 : Nat)
    (h : zRn X d kc ks MX10_isLattice 2 [some (.ref p0), some (.int 0), none, none, none] [] w Q) :
    zRn X d kc ks MX10_isLattice 0 [some (.ref p0), none, none, none, none] [] w Q := by
  refine z_iconst 0 dX10_isLattice_0 rfl ?_
  refine z_istore_n (i := 1) dX10_isLattice_1 rfl (by decide) rfl ?_
  exact h
set_option maxRecDepth 100000 in
set_option maxHeartbeats 4000000 in
theorem bX10_isLattice_2 {X : zX} {d kc ks : Nat} {w : zW} {Q : Option Value → zW → Prop} (v0 : Nat) (v1 : Int32)
    (h : zIs w v0 5 ∧ zCallI X d MX5_size [.ref v0] w (fun x2 w1 => if x2 ≤ v1 then (Q (some (.int 1)) w1) else (zRn X d kc ks MX10_isLattice 14 [some (.ref v0), some (.int v1), some (.int (v1 + 1)), none, none] [] w1 Q))) :
    zRn X d kc ks MX10_isLattice 2 [some (.ref v0), some (.int v1), none, none, none] [] w Q := by
  refine z_iload_n v1 dX10_isLattice_2 rfl rfl ?_
  refine z_aload_n v0 dX10_isLattice_3 rfl rfl ?_
  refine zq_VI (N := MX5_size) (As := []) m_X10_25 dX10_isLattice_4 rfl rfl (Nat.le_of_ble_eq_true rfl) h (fun x2 w1 h => ?_)
  refine z_icmp_ge 78 dX10_isLattice_7 rfl (fun hc => ?_) (fun hc => ?_)
  · rw [if_pos hc] at h
    refine z_iconst 1 dX10_isLattice_78 rfl ?_
    exact z_ireturn .boolean dX10_isLattice_79 rfl rfl h
  · rw [if_neg hc] at h
    refine z_iload_n v1 dX10_isLattice_10 rfl rfl ?_
    refine z_iconst 1 dX10_isLattice_11 rfl ?_
    refine z_iadd dX10_isLattice_12 ?_
    refine z_istore_n (i := 2) dX10_isLattice_13 rfl (by decide) rfl ?_
    exact h
set_option maxRecDepth 100000 in
set_option maxHeartbeats 4000000 in
theorem bX10_isLattice_14 {X : zX} {d kc ks : Nat} {w : zW} {Q : Option Value → zW → Prop} (v0 : Nat) (v1 : Int32) (v2 : Int32)
    (h : zIs w v0 5 ∧ zCallI X d MX5_size [.ref v0] w (fun x2 w1 => if x2 ≤ v2 then (zRn X d kc ks MX10_isLattice 2 [some (.ref v0), some (.int (v1 + 1)), none, none, none] [] w1 Q) else (zCallI X d MX10_upFrom [.ref v0, .int v1] w1 (fun x4 w3 => zCallI X d MX10_upFrom [.ref v0, .int v2] w3 (fun x6 w5 => zCallI X d MX10_downFrom [.ref v0, .int v1] w5 (fun x8 w7 => zCallI X d MX10_downFrom [.ref v0, .int v2] w7 (fun x10 w9 => zCallI X d MX10_hasLeast [.ref v0, .int (x4 &&& x6)] w9 (fun x12 w11 => if x12 = 0 then (Q (some (.int 0)) w11) else (zCallI X d MX10_hasGreatest [.ref v0, .int (x8 &&& x10)] w11 (fun x14 w13 => if x14 = 0 then (Q (some (.int 0)) w13) else (zRn X d kc ks MX10_isLattice 14 [some (.ref v0), some (.int v1), some (.int (v2 + 1)), none, none] [] w13 Q))))))))))) :
    zRn X d kc ks MX10_isLattice 14 [some (.ref v0), some (.int v1), some (.int v2), none, none] [] w Q := by
  refine z_iload_n v2 dX10_isLattice_14 rfl rfl ?_
  refine z_aload_n v0 dX10_isLattice_15 rfl rfl ?_
  refine zq_VI (N := MX5_size) (As := []) m_X10_25 dX10_isLattice_16 rfl rfl (Nat.le_of_ble_eq_true rfl) h (fun x2 w1 h => ?_)
  refine z_icmp_ge 72 dX10_isLattice_19 rfl (fun hc => ?_) (fun hc => ?_)
  · rw [if_pos hc] at h
    refine z_iinc (i := 1) v1 (v1 + 1) dX10_isLattice_72 rfl rfl (by decide) rfl ?_
    refine z_goto 2 dX10_isLattice_75 rfl ?_
    exact zRn.weak h (zLe_of [true, true, false, true, true] (And.intro rfl (And.intro rfl (And.intro rfl (And.intro rfl (And.intro rfl (trivial)))))))
  · rw [if_neg hc] at h
    refine z_aload_n v0 dX10_isLattice_22 rfl rfl ?_
    refine z_iload_n v1 dX10_isLattice_23 rfl rfl ?_
    refine zq_SI (N := MX10_upFrom) (As := [.ref v0, .int v1]) m_X10_53 dX10_isLattice_24 rfl rfl (Nat.le_of_ble_eq_true rfl) h (fun x4 w3 h => ?_)
    refine z_aload_n v0 dX10_isLattice_27 rfl rfl ?_
    refine z_iload_n v2 dX10_isLattice_28 rfl rfl ?_
    refine zq_SI (N := MX10_upFrom) (As := [.ref v0, .int v2]) m_X10_53 dX10_isLattice_29 rfl rfl (Nat.le_of_ble_eq_true rfl) h (fun x6 w5 h => ?_)
    refine z_iand dX10_isLattice_32 ?_
    refine z_istore_n (i := 3) dX10_isLattice_33 rfl (by decide) rfl ?_
    refine z_aload_n v0 dX10_isLattice_34 rfl rfl ?_
    refine z_iload_n v1 dX10_isLattice_35 rfl rfl ?_
    refine zq_SI (N := MX10_downFrom) (As := [.ref v0, .int v1]) m_X10_56 dX10_isLattice_36 rfl rfl (Nat.le_of_ble_eq_true rfl) h (fun x8 w7 h => ?_)
    refine z_aload_n v0 dX10_isLattice_39 rfl rfl ?_
    refine z_iload_n v2 dX10_isLattice_40 rfl rfl ?_
    refine zq_SI (N := MX10_downFrom) (As := [.ref v0, .int v2]) m_X10_56 dX10_isLattice_41 rfl rfl (Nat.le_of_ble_eq_true rfl) h (fun x10 w9 h => ?_)
    refine z_iand dX10_isLattice_44 ?_
    refine z_istore (i := 4) dX10_isLattice_45 (by decide) rfl ?_
    refine z_aload_n v0 dX10_isLattice_47 rfl rfl ?_
    refine z_iload_n (x4 &&& x6) dX10_isLattice_48 rfl rfl ?_
    refine zq_SI (N := MX10_hasLeast) (As := [.ref v0, .int (x4 &&& x6)]) m_X10_59 dX10_isLattice_49 rfl rfl (Nat.le_of_ble_eq_true rfl) h (fun x12 w11 h => ?_)
    refine z_if_eq 64 dX10_isLattice_52 rfl (fun hc => ?_) (fun hc => ?_)
    · rw [if_pos hc] at h
      refine z_iconst 0 dX10_isLattice_64 rfl ?_
      exact z_ireturn .boolean dX10_isLattice_65 rfl rfl h
    · rw [if_neg hc] at h
      refine z_aload_n v0 dX10_isLattice_55 rfl rfl ?_
      refine z_iload (x8 &&& x10) dX10_isLattice_56 rfl ?_
      refine zq_SI (N := MX10_hasGreatest) (As := [.ref v0, .int (x8 &&& x10)]) m_X10_62 dX10_isLattice_58 rfl rfl (Nat.le_of_ble_eq_true rfl) h (fun x14 w13 h => ?_)
      refine z_if_ne 66 dX10_isLattice_61 rfl (fun hc => ?_) (fun hc => ?_)
      · rw [if_neg hc] at h
        refine z_iinc (i := 2) v2 (v2 + 1) dX10_isLattice_66 rfl rfl (by decide) rfl ?_
        refine z_goto 14 dX10_isLattice_69 rfl ?_
        exact zRn.weak h (zLe_of [true, true, true, false, false] (And.intro rfl (And.intro rfl (And.intro rfl (And.intro rfl (And.intro rfl (trivial)))))))
      · rw [if_pos hc] at h
        refine z_iconst 0 dX10_isLattice_64 rfl ?_
        exact z_ireturn .boolean dX10_isLattice_65 rfl rfl h
theorem eX10_isLattice {X : zX} {d kc ks : Nat} {w : zW} {Q : Option Value → zW → Prop} (p0 : Nat) (h : zRn X d kc ks MX10_isLattice 0 [some (.ref p0), none, none, none, none] [] w Q) : zEv X d kc ks MX10_isLattice [.ref p0] w Q :=
  zEv.of (by decide) (Nat.le_of_ble_eq_true rfl) (Or.inr (by simp [Value.category])) h
set_option maxRecDepth 100000 in
set_option maxHeartbeats 4000000 in
theorem bX10_upFrom_0 {X : zX} {d kc ks : Nat} {w : zW} {Q : Option Value → zW → Prop} (p0 : Nat) (a1 : Int32)
    (h : zIs w p0 5 ∧ zCallI X d MX5_aboveOf [.ref p0, .int a1] w (fun x2 w1 => Q (some (.int (x2 ||| ((1 : Int32) <<< (a1 &&& 31))))) w1)) :
    zRn X d kc ks MX10_upFrom 0 [some (.ref p0), some (.int a1)] [] w Q := by
  refine z_aload_n p0 dX10_upFrom_0 rfl rfl ?_
  refine z_iload_n a1 dX10_upFrom_1 rfl rfl ?_
  refine zq_VI (N := MX5_aboveOf) (As := [.int a1]) m_X10_39 dX10_upFrom_2 rfl rfl (Nat.le_of_ble_eq_true rfl) h (fun x2 w1 h => ?_)
  refine z_iconst 1 dX10_upFrom_5 rfl ?_
  refine z_iload_n a1 dX10_upFrom_6 rfl rfl ?_
  refine z_ishl dX10_upFrom_7 ?_
  refine z_ior dX10_upFrom_8 ?_
  exact z_ireturn .int dX10_upFrom_9 rfl rfl h
theorem eX10_upFrom {X : zX} {d kc ks : Nat} {w : zW} {Q : Option Value → zW → Prop} (p0 : Nat) (a1 : Int32) (h : zRn X d kc ks MX10_upFrom 0 [some (.ref p0), some (.int a1)] [] w Q) : zEv X d kc ks MX10_upFrom [.ref p0, .int a1] w Q :=
  zEv.of (by decide) (Nat.le_of_ble_eq_true rfl) (Or.inr (by simp [Value.category])) h
set_option maxRecDepth 100000 in
set_option maxHeartbeats 4000000 in
theorem bX10_downFrom_0 {X : zX} {d kc ks : Nat} {w : zW} {Q : Option Value → zW → Prop} (p0 : Nat) (a1 : Int32)
    (h : zIs w p0 5 ∧ zCallI X d MX5_belowOf [.ref p0, .int a1] w (fun x2 w1 => Q (some (.int (x2 ||| ((1 : Int32) <<< (a1 &&& 31))))) w1)) :
    zRn X d kc ks MX10_downFrom 0 [some (.ref p0), some (.int a1)] [] w Q := by
  refine z_aload_n p0 dX10_downFrom_0 rfl rfl ?_
  refine z_iload_n a1 dX10_downFrom_1 rfl rfl ?_
  refine zq_VI (N := MX5_belowOf) (As := [.int a1]) m_X10_28 dX10_downFrom_2 rfl rfl (Nat.le_of_ble_eq_true rfl) h (fun x2 w1 h => ?_)
  refine z_iconst 1 dX10_downFrom_5 rfl ?_
  refine z_iload_n a1 dX10_downFrom_6 rfl rfl ?_
  refine z_ishl dX10_downFrom_7 ?_
  refine z_ior dX10_downFrom_8 ?_
  exact z_ireturn .int dX10_downFrom_9 rfl rfl h
theorem eX10_downFrom {X : zX} {d kc ks : Nat} {w : zW} {Q : Option Value → zW → Prop} (p0 : Nat) (a1 : Int32) (h : zRn X d kc ks MX10_downFrom 0 [some (.ref p0), some (.int a1)] [] w Q) : zEv X d kc ks MX10_downFrom [.ref p0, .int a1] w Q :=
  zEv.of (by decide) (Nat.le_of_ble_eq_true rfl) (Or.inr (by simp [Value.category])) h
set_option maxRecDepth 100000 in
set_option maxHeartbeats 4000000 in
theorem bX10_hasLeast_0 {X : zX} {d kc ks : Nat} {w : zW} {Q : Option Value → zW → Prop} (p0 : Nat) (a1 : Int32)
    (h : zRn X d kc ks MX10_hasLeast 2 [some (.ref p0), some (.int a1), some (.int 0)] [] w Q) :
    zRn X d kc ks MX10_hasLeast 0 [some (.ref p0), some (.int a1), none] [] w Q := by
  refine z_iconst 0 dX10_hasLeast_0 rfl ?_
  refine z_istore_n (i := 2) dX10_hasLeast_1 rfl (by decide) rfl ?_
  exact h
set_option maxRecDepth 100000 in
set_option maxHeartbeats 4000000 in
theorem bX10_hasLeast_2 {X : zX} {d kc ks : Nat} {w : zW} {Q : Option Value → zW → Prop} (v0 : Nat) (v1 : Int32) (v2 : Int32)
    (h : zIs w v0 5 ∧ zCallI X d MX5_size [.ref v0] w (fun x2 w1 => if x2 ≤ v2 then (Q (some (.int 0)) w1) else (if ((v1 >>> (v2 &&& 31)) &&& 1) = 1 then (zCallI X d MX10_upFrom [.ref v0, .int v2] w1 (fun x4 w3 => if (v1 &&& (x4 ^^^ (-1))) = 0 then (Q (some (.int 1)) w3) else (zRn X d kc ks MX10_hasLeast 33 [some (.ref v0), some (.int v1), some (.int v2)] [] w3 Q))) else (zRn X d kc ks MX10_hasLeast 33 [some (.ref v0), some (.int v1), some (.int v2)] [] w1 Q)))) :
    zRn X d kc ks MX10_hasLeast 2 [some (.ref v0), some (.int v1), some (.int v2)] [] w Q := by
  refine z_iload_n v2 dX10_hasLeast_2 rfl rfl ?_
  refine z_aload_n v0 dX10_hasLeast_3 rfl rfl ?_
  refine zq_VI (N := MX5_size) (As := []) m_X10_25 dX10_hasLeast_4 rfl rfl (Nat.le_of_ble_eq_true rfl) h (fun x2 w1 h => ?_)
  refine z_icmp_ge 39 dX10_hasLeast_7 rfl (fun hc => ?_) (fun hc => ?_)
  · rw [if_pos hc] at h
    refine z_iconst 0 dX10_hasLeast_39 rfl ?_
    exact z_ireturn .boolean dX10_hasLeast_40 rfl rfl h
  · rw [if_neg hc] at h
    refine z_iload_n v1 dX10_hasLeast_10 rfl rfl ?_
    refine z_iload_n v2 dX10_hasLeast_11 rfl rfl ?_
    refine z_ishr dX10_hasLeast_12 ?_
    refine z_iconst 1 dX10_hasLeast_13 rfl ?_
    refine z_iand dX10_hasLeast_14 ?_
    refine z_iconst 1 dX10_hasLeast_15 rfl ?_
    refine z_icmp_ne 33 dX10_hasLeast_16 rfl (fun hc => ?_) (fun hc => ?_)
    · rw [if_neg hc] at h
      exact h
    · rw [if_pos hc] at h
      refine z_iload_n v1 dX10_hasLeast_19 rfl rfl ?_
      refine z_aload_n v0 dX10_hasLeast_20 rfl rfl ?_
      refine z_iload_n v2 dX10_hasLeast_21 rfl rfl ?_
      refine zq_SI (N := MX10_upFrom) (As := [.ref v0, .int v2]) m_X10_53 dX10_hasLeast_22 rfl rfl (Nat.le_of_ble_eq_true rfl) h (fun x4 w3 h => ?_)
      refine z_iconst (-1) dX10_hasLeast_25 rfl ?_
      refine z_ixor dX10_hasLeast_26 ?_
      refine z_iand dX10_hasLeast_27 ?_
      refine z_if_ne 33 dX10_hasLeast_28 rfl (fun hc => ?_) (fun hc => ?_)
      · rw [if_neg hc] at h
        exact h
      · rw [if_pos hc] at h
        refine z_iconst 1 dX10_hasLeast_31 rfl ?_
        exact z_ireturn .boolean dX10_hasLeast_32 rfl rfl h
set_option maxRecDepth 100000 in
set_option maxHeartbeats 4000000 in
theorem bX10_hasLeast_33 {X : zX} {d kc ks : Nat} {w : zW} {Q : Option Value → zW → Prop} (v0 : Nat) (v1 : Int32) (v2 : Int32)
    (h : zRn X d kc ks MX10_hasLeast 2 [some (.ref v0), some (.int v1), some (.int (v2 + 1))] [] w Q) :
    zRn X d kc ks MX10_hasLeast 33 [some (.ref v0), some (.int v1), some (.int v2)] [] w Q := by
  refine z_iinc (i := 2) v2 (v2 + 1) dX10_hasLeast_33 rfl rfl (by decide) rfl ?_
  refine z_goto 2 dX10_hasLeast_36 rfl ?_
  exact h
theorem eX10_hasLeast {X : zX} {d kc ks : Nat} {w : zW} {Q : Option Value → zW → Prop} (p0 : Nat) (a1 : Int32) (h : zRn X d kc ks MX10_hasLeast 0 [some (.ref p0), some (.int a1), none] [] w Q) : zEv X d kc ks MX10_hasLeast [.ref p0, .int a1] w Q :=
  zEv.of (by decide) (Nat.le_of_ble_eq_true rfl) (Or.inr (by simp [Value.category])) h
set_option maxRecDepth 100000 in
set_option maxHeartbeats 4000000 in
theorem bX10_hasGreatest_0 {X : zX} {d kc ks : Nat} {w : zW} {Q : Option Value → zW → Prop} (p0 : Nat) (a1 : Int32)
    (h : zRn X d kc ks MX10_hasGreatest 2 [some (.ref p0), some (.int a1), some (.int 0)] [] w Q) :
    zRn X d kc ks MX10_hasGreatest 0 [some (.ref p0), some (.int a1), none] [] w Q := by
  refine z_iconst 0 dX10_hasGreatest_0 rfl ?_
  refine z_istore_n (i := 2) dX10_hasGreatest_1 rfl (by decide) rfl ?_
  exact h
set_option maxRecDepth 100000 in
set_option maxHeartbeats 4000000 in
theorem bX10_hasGreatest_2 {X : zX} {d kc ks : Nat} {w : zW} {Q : Option Value → zW → Prop} (v0 : Nat) (v1 : Int32) (v2 : Int32)
    (h : zIs w v0 5 ∧ zCallI X d MX5_size [.ref v0] w (fun x2 w1 => if x2 ≤ v2 then (Q (some (.int 0)) w1) else (if ((v1 >>> (v2 &&& 31)) &&& 1) = 1 then (zCallI X d MX10_downFrom [.ref v0, .int v2] w1 (fun x4 w3 => if (v1 &&& (x4 ^^^ (-1))) = 0 then (Q (some (.int 1)) w3) else (zRn X d kc ks MX10_hasGreatest 33 [some (.ref v0), some (.int v1), some (.int v2)] [] w3 Q))) else (zRn X d kc ks MX10_hasGreatest 33 [some (.ref v0), some (.int v1), some (.int v2)] [] w1 Q)))) :
    zRn X d kc ks MX10_hasGreatest 2 [some (.ref v0), some (.int v1), some (.int v2)] [] w Q := by
  refine z_iload_n v2 dX10_hasGreatest_2 rfl rfl ?_
  refine z_aload_n v0 dX10_hasGreatest_3 rfl rfl ?_
  refine zq_VI (N := MX5_size) (As := []) m_X10_25 dX10_hasGreatest_4 rfl rfl (Nat.le_of_ble_eq_true rfl) h (fun x2 w1 h => ?_)
  refine z_icmp_ge 39 dX10_hasGreatest_7 rfl (fun hc => ?_) (fun hc => ?_)
  · rw [if_pos hc] at h
    refine z_iconst 0 dX10_hasGreatest_39 rfl ?_
    exact z_ireturn .boolean dX10_hasGreatest_40 rfl rfl h
  · rw [if_neg hc] at h
    refine z_iload_n v1 dX10_hasGreatest_10 rfl rfl ?_
    refine z_iload_n v2 dX10_hasGreatest_11 rfl rfl ?_
    refine z_ishr dX10_hasGreatest_12 ?_
    refine z_iconst 1 dX10_hasGreatest_13 rfl ?_
    refine z_iand dX10_hasGreatest_14 ?_
    refine z_iconst 1 dX10_hasGreatest_15 rfl ?_
    refine z_icmp_ne 33 dX10_hasGreatest_16 rfl (fun hc => ?_) (fun hc => ?_)
    · rw [if_neg hc] at h
      exact h
    · rw [if_pos hc] at h
      refine z_iload_n v1 dX10_hasGreatest_19 rfl rfl ?_
      refine z_aload_n v0 dX10_hasGreatest_20 rfl rfl ?_
      refine z_iload_n v2 dX10_hasGreatest_21 rfl rfl ?_
      refine zq_SI (N := MX10_downFrom) (As := [.ref v0, .int v2]) m_X10_56 dX10_hasGreatest_22 rfl rfl (Nat.le_of_ble_eq_true rfl) h (fun x4 w3 h => ?_)
      refine z_iconst (-1) dX10_hasGreatest_25 rfl ?_
      refine z_ixor dX10_hasGreatest_26 ?_
      refine z_iand dX10_hasGreatest_27 ?_
      refine z_if_ne 33 dX10_hasGreatest_28 rfl (fun hc => ?_) (fun hc => ?_)
      · rw [if_neg hc] at h
        exact h
      · rw [if_pos hc] at h
        refine z_iconst 1 dX10_hasGreatest_31 rfl ?_
        exact z_ireturn .boolean dX10_hasGreatest_32 rfl rfl h
set_option maxRecDepth 100000 in
set_option maxHeartbeats 4000000 in
theorem bX10_hasGreatest_33 {X : zX} {d kc ks : Nat} {w : zW} {Q : Option Value → zW → Prop} (v0 : Nat) (v1 : Int32) (v2 : Int32)
    (h : zRn X d kc ks MX10_hasGreatest 2 [some (.ref v0), some (.int v1), some (.int (v2 + 1))] [] w Q) :
    zRn X d kc ks MX10_hasGreatest 33 [some (.ref v0), some (.int v1), some (.int v2)] [] w Q := by
  refine z_iinc (i := 2) v2 (v2 + 1) dX10_hasGreatest_33 rfl rfl (by decide) rfl ?_
  refine z_goto 2 dX10_hasGreatest_36 rfl ?_
  exact h
theorem eX10_hasGreatest {X : zX} {d kc ks : Nat} {w : zW} {Q : Option Value → zW → Prop} (p0 : Nat) (a1 : Int32) (h : zRn X d kc ks MX10_hasGreatest 0 [some (.ref p0), some (.int a1), none] [] w Q) : zEv X d kc ks MX10_hasGreatest [.ref p0, .int a1] w Q :=
  zEv.of (by decide) (Nat.le_of_ble_eq_true rfl) (Or.inr (by simp [Value.category])) h
