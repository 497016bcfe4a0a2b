set_option maxRecDepth 100000 in
set_option maxHeartbeats 4000000 in
theorem bX12_of__0 {X : zX} {d kc ks : Nat} {w : zW} {Q : Option Value → zW → Prop} (p0 : Nat) (a1 : Int32) (a2 : Int32) (a3 : Int32)
    (h : zIs w p0 11 ∧ zCallI X d MX12_isThing [.ref p0, .int a1, .int a2] w (fun x2 w1 => if x2 = 0 then (Q (some (.int (-2))) w1) else (zCallI X d MX12_in [.long ((a3 : Int32).toInt64), .long 0, .long 4] w1 (fun x4 w3 => if x4 = 0 then (Q (some (.int (-2))) w3) else (zRn X d kc ks MX12_of_ 36 [some (.ref p0), some (.int a1), some (.int a2), some (.int a3), some (.int 0), some (.int 0), some (.int 0), some (.int 0)] [] w3 Q))))) :
    zRn X d kc ks MX12_of_ 0 [some (.ref p0), some (.int a1), some (.int a2), some (.int a3), none, none, none, none] [] w Q := by
  refine z_aload_n p0 dX12_of__0 rfl rfl ?_
  refine z_iload_n a1 dX12_of__1 rfl rfl ?_
  refine z_iload_n a2 dX12_of__2 rfl rfl ?_
  refine zq_VI (N := MX12_isThing) (As := [.int a1, .int a2]) m_X12_215 dX12_of__3 rfl rfl (Nat.le_of_ble_eq_true rfl) h (fun x2 w1 h => ?_)
  refine z_if_eq 21 dX12_of__6 rfl (fun hc => ?_) (fun hc => ?_)
  · rw [if_pos hc] at h
    refine z_bipush (-2) dX12_of__21 rfl ?_
    exact z_ireturn .int dX12_of__23 rfl rfl h
  · rw [if_neg hc] at h
    refine z_iload_n a3 dX12_of__9 rfl rfl ?_
    refine z_i2l dX12_of__10 ?_
    refine z_lconst 0 dX12_of__11 rfl ?_
    refine z_ldc2 4 g_1509 dX12_of__12 ?_
    refine zq_SI (N := MX12_in) (As := [.long ((a3 : Int32).toInt64), .long 0, .long 4]) m_X12_64 dX12_of__15 rfl rfl (Nat.le_of_ble_eq_true rfl) h (fun x4 w3 h => ?_)
    refine z_if_ne 24 dX12_of__18 rfl (fun hc => ?_) (fun hc => ?_)
    · rw [if_neg hc] at h
      refine z_iconst 0 dX12_of__24 rfl ?_
      refine z_istore (i := 4) dX12_of__25 (by decide) rfl ?_
      refine z_iconst 0 dX12_of__27 rfl ?_
      refine z_istore (i := 5) dX12_of__28 (by decide) rfl ?_
      refine z_iconst 0 dX12_of__30 rfl ?_
      refine z_istore (i := 6) dX12_of__31 (by decide) rfl ?_
      refine z_iconst 0 dX12_of__33 rfl ?_
      refine z_istore (i := 7) dX12_of__34 (by decide) rfl ?_
      exact h
    · rw [if_pos hc] at h
      refine z_bipush (-2) dX12_of__21 rfl ?_
      exact z_ireturn .int dX12_of__23 rfl rfl h
set_option maxRecDepth 100000 in
set_option maxHeartbeats 4000000 in
theorem bX12_of__36 {X : zX} {d kc ks : Nat} {w : zW} {Q : Option Value → zW → Prop} (v0 : Nat) (v1 : Int32) (v2 : Int32) (v3 : Int32) (v4 : Int32) (v5 : Int32) (v6 : Int32) (v7 : Int32)
    (h : zIs w v0 11 ∧ zCallI X d MX12_many [.ref v0, .int v1] w (fun x2 w1 => if x2 ≤ v7 then ((v3 = 0 → (zIs w1 v0 11 ∧ zCallI X d MX12_under [.ref v0, .int v1, .int v2] w1 (fun x4 w3 => Q (some (.int x4)) w3))) ∧ (v3 = 1 → (zIs w1 v0 11 ∧ zCallI X d MX12_over [.ref v0, .int v1, .int v2] w1 (fun x6 w5 => Q (some (.int x6)) w5))) ∧ (v3 = 2 → (Q (some (.int v4)) w1)) ∧ (v3 = 3 → (Q (some (.int v5)) w1)) ∧ (¬ (0 ≤ v3 ∧ v3 < 4) → (Q (some (.int v6)) w1))) else (zIs w1 v0 11 ∧ zCallI X d MX12_areFree [.ref v0, .int v1, .int v2, .int v7] w1 (fun x8 w7 => if x8 = 0 then (zRn X d kc ks MX12_of_ 67 [some (.ref v0), some (.int v1), some (.int v2), some (.int v3), none, some (.int v5), some (.int v6), some (.int v7)] [.int 0, .int v4] w7 Q) else (zRn X d kc ks MX12_of_ 67 [some (.ref v0), some (.int v1), some (.int v2), some (.int v3), none, some (.int v5), some (.int v6), some (.int v7)] [.int ((1 : Int32) <<< (v7 &&& 31)), .int v4] w7 Q))))) :
    zRn X d kc ks MX12_of_ 36 [some (.ref v0), some (.int v1), some (.int v2), some (.int v3), some (.int v4), some (.int v5), some (.int v6), some (.int v7)] [] w Q := by
  refine z_iload v7 dX12_of__36 rfl ?_
  refine z_aload_n v0 dX12_of__38 rfl rfl ?_
  refine z_iload_n v1 dX12_of__39 rfl rfl ?_
  refine zq_VI (N := MX12_many) (As := [.int v1]) m_X12_76 dX12_of__40 rfl rfl (Nat.le_of_ble_eq_true rfl) h (fun x2 w1 h => ?_)
  refine z_icmp_ge 124 dX12_of__43 rfl (fun hc => ?_) (fun hc => ?_)
  · rw [if_pos hc] at h
    refine z_iload_n v3 dX12_of__124 rfl rfl ?_
    rcases pk_ix v3 (n := 4) (by decide) with hx | hx | ⟨j, hj, hx⟩
    · refine z_tableOut 176 dX12_of__125 (zsw_lo hx) rfl ?_
      have h := h.2.2.2.2 (fun q => absurd hx (Int32.not_lt.mpr q.1))
      refine z_iload v6 dX12_of__176 rfl ?_
      exact z_ireturn .int dX12_of__178 rfl rfl h
    · refine z_tableOut 176 dX12_of__125 (zsw_hi (n := 4) (by decide) rfl hx) rfl ?_
      have h := h.2.2.2.2 (fun q => absurd q.2 (Int32.not_lt.mpr hx))
      refine z_iload v6 dX12_of__176 rfl ?_
      exact z_ireturn .int dX12_of__178 rfl rfl h
    · rcases (show j = 0 ∨ j = 1 ∨ j = 2 ∨ j = 3 by omega) with rfl | rfl | rfl | rfl
      · refine z_tableIn 156 dX12_of__125 (by rw [hx]; decide) (by rw [hx]; decide) (by rw [hx]; rfl) rfl ?_
        have h := h.1 hx
        refine z_aload_n v0 dX12_of__156 rfl rfl ?_
        refine z_iload_n v1 dX12_of__157 rfl rfl ?_
        refine z_iload_n v2 dX12_of__158 rfl rfl ?_
        refine zq_VI (N := MX12_under) (As := [.int v1, .int v2]) m_X12_86 dX12_of__159 rfl rfl (Nat.le_of_ble_eq_true rfl) h (fun x4 w3 h => ?_)
        exact z_ireturn .int dX12_of__162 rfl rfl h
      · refine z_tableIn 163 dX12_of__125 (by rw [hx]; decide) (by rw [hx]; decide) (by rw [hx]; rfl) rfl ?_
        have h := h.2.1 hx
        refine z_aload_n v0 dX12_of__163 rfl rfl ?_
        refine z_iload_n v1 dX12_of__164 rfl rfl ?_
        refine z_iload_n v2 dX12_of__165 rfl rfl ?_
        refine zq_VI (N := MX12_over) (As := [.int v1, .int v2]) m_X12_97 dX12_of__166 rfl rfl (Nat.le_of_ble_eq_true rfl) h (fun x6 w5 h => ?_)
        exact z_ireturn .int dX12_of__169 rfl rfl h
      · refine z_tableIn 170 dX12_of__125 (by rw [hx]; decide) (by rw [hx]; decide) (by rw [hx]; rfl) rfl ?_
        have h := h.2.2.1 hx
        refine z_iload v4 dX12_of__170 rfl ?_
        exact z_ireturn .int dX12_of__172 rfl rfl h
      · refine z_tableIn 173 dX12_of__125 (by rw [hx]; decide) (by rw [hx]; decide) (by rw [hx]; rfl) rfl ?_
        have h := h.2.2.2.1 hx
        refine z_iload v5 dX12_of__173 rfl ?_
        exact z_ireturn .int dX12_of__175 rfl rfl h
  · rw [if_neg hc] at h
    refine z_iload v4 dX12_of__46 rfl ?_
    refine z_aload_n v0 dX12_of__48 rfl rfl ?_
    refine z_iload_n v1 dX12_of__49 rfl rfl ?_
    refine z_iload_n v2 dX12_of__50 rfl rfl ?_
    refine z_iload v7 dX12_of__51 rfl ?_
    refine zq_VI (N := MX12_areFree) (As := [.int v1, .int v2, .int v7]) m_X12_227 dX12_of__53 rfl rfl (Nat.le_of_ble_eq_true rfl) h (fun x8 w7 h => ?_)
    refine z_if_eq 66 dX12_of__56 rfl (fun hc => ?_) (fun hc => ?_)
    · rw [if_pos hc] at h
      refine z_iconst 0 dX12_of__66 rfl ?_
      exact zRn.weak h (zLe_of [true, true, true, true, false, true, true, true] (And.intro rfl (And.intro rfl (And.intro rfl (And.intro rfl (And.intro rfl (And.intro rfl (And.intro rfl (And.intro rfl (trivial))))))))))
    · rw [if_neg hc] at h
      refine z_iconst 1 dX12_of__59 rfl ?_
      refine z_iload v7 dX12_of__60 rfl ?_
      refine z_ishl dX12_of__62 ?_
      refine z_goto 67 dX12_of__63 rfl ?_
      exact zRn.weak h (zLe_of [true, true, true, true, false, true, true, true] (And.intro rfl (And.intro rfl (And.intro rfl (And.intro rfl (And.intro rfl (And.intro rfl (And.intro rfl (And.intro rfl (trivial))))))))))
set_option maxRecDepth 100000 in
set_option maxHeartbeats 4000000 in
theorem bX12_of__67 {X : zX} {d kc ks : Nat} {w : zW} {Q : Option Value → zW → Prop} (v0 : Nat) (v1 : Int32) (v2 : Int32) (v3 : Int32) (v5 : Int32) (v6 : Int32) (v7 : Int32) (u0 : Int32) (u1 : Int32)
    (h : zIs w v0 11 ∧ zCallI X d MX12_isCover [.ref v0, .int v1, .int v7, .int v2] w (fun x2 w1 => if x2 = 0 then (zRn X d kc ks MX12_of_ 91 [some (.ref v0), some (.int v1), some (.int v2), some (.int v3), some (.int (u1 ||| u0)), none, some (.int v6), some (.int v7)] [.int 0, .int v5] w1 Q) else (zRn X d kc ks MX12_of_ 91 [some (.ref v0), some (.int v1), some (.int v2), some (.int v3), some (.int (u1 ||| u0)), none, some (.int v6), some (.int v7)] [.int ((1 : Int32) <<< (v7 &&& 31)), .int v5] w1 Q))) :
    zRn X d kc ks MX12_of_ 67 [some (.ref v0), some (.int v1), some (.int v2), some (.int v3), none, some (.int v5), some (.int v6), some (.int v7)] [.int u0, .int u1] w Q := by
  refine z_ior dX12_of__67 ?_
  refine z_istore (i := 4) dX12_of__68 (by decide) rfl ?_
  refine z_iload v5 dX12_of__70 rfl ?_
  refine z_aload_n v0 dX12_of__72 rfl rfl ?_
  refine z_iload_n v1 dX12_of__73 rfl rfl ?_
  refine z_iload v7 dX12_of__74 rfl ?_
  refine z_iload_n v2 dX12_of__76 rfl rfl ?_
  refine zq_VI (N := MX12_isCover) (As := [.int v1, .int v7, .int v2]) m_X12_236 dX12_of__77 rfl rfl (Nat.le_of_ble_eq_true rfl) h (fun x2 w1 h => ?_)
  refine z_if_eq 90 dX12_of__80 rfl (fun hc => ?_) (fun hc => ?_)
  · rw [if_pos hc] at h
    refine z_iconst 0 dX12_of__90 rfl ?_
    exact zRn.weak h (zLe_of [true, true, true, true, true, false, true, true] (And.intro rfl (And.intro rfl (And.intro rfl (And.intro rfl (And.intro rfl (And.intro rfl (And.intro rfl (And.intro rfl (trivial))))))))))
  · rw [if_neg hc] at h
    refine z_iconst 1 dX12_of__83 rfl ?_
    refine z_iload v7 dX12_of__84 rfl ?_
    refine z_ishl dX12_of__86 ?_
    refine z_goto 91 dX12_of__87 rfl ?_
    exact zRn.weak h (zLe_of [true, true, true, true, true, false, true, true] (And.intro rfl (And.intro rfl (And.intro rfl (And.intro rfl (And.intro rfl (And.intro rfl (And.intro rfl (And.intro rfl (trivial))))))))))
set_option maxRecDepth 100000 in
set_option maxHeartbeats 4000000 in
theorem bX12_of__91 {X : zX} {d kc ks : Nat} {w : zW} {Q : Option Value → zW → Prop} (v0 : Nat) (v1 : Int32) (v2 : Int32) (v3 : Int32) (v4 : Int32) (v6 : Int32) (v7 : Int32) (u0 : Int32) (u1 : Int32)
    (h : zIs w v0 11 ∧ zCallI X d MX12_isCover [.ref v0, .int v1, .int v2, .int v7] w (fun x2 w1 => if x2 = 0 then (zRn X d kc ks MX12_of_ 115 [some (.ref v0), some (.int v1), some (.int v2), some (.int v3), some (.int v4), some (.int (u1 ||| u0)), none, some (.int v7)] [.int 0, .int v6] w1 Q) else (zRn X d kc ks MX12_of_ 115 [some (.ref v0), some (.int v1), some (.int v2), some (.int v3), some (.int v4), some (.int (u1 ||| u0)), none, some (.int v7)] [.int ((1 : Int32) <<< (v7 &&& 31)), .int v6] w1 Q))) :
    zRn X d kc ks MX12_of_ 91 [some (.ref v0), some (.int v1), some (.int v2), some (.int v3), some (.int v4), none, some (.int v6), some (.int v7)] [.int u0, .int u1] w Q := by
  refine z_ior dX12_of__91 ?_
  refine z_istore (i := 5) dX12_of__92 (by decide) rfl ?_
  refine z_iload v6 dX12_of__94 rfl ?_
  refine z_aload_n v0 dX12_of__96 rfl rfl ?_
  refine z_iload_n v1 dX12_of__97 rfl rfl ?_
  refine z_iload_n v2 dX12_of__98 rfl rfl ?_
  refine z_iload v7 dX12_of__99 rfl ?_
  refine zq_VI (N := MX12_isCover) (As := [.int v1, .int v2, .int v7]) m_X12_236 dX12_of__101 rfl rfl (Nat.le_of_ble_eq_true rfl) h (fun x2 w1 h => ?_)
  refine z_if_eq 114 dX12_of__104 rfl (fun hc => ?_) (fun hc => ?_)
  · rw [if_pos hc] at h
    refine z_iconst 0 dX12_of__114 rfl ?_
    exact zRn.weak h (zLe_of [true, true, true, true, true, true, false, true] (And.intro rfl (And.intro rfl (And.intro rfl (And.intro rfl (And.intro rfl (And.intro rfl (And.intro rfl (And.intro rfl (trivial))))))))))
  · rw [if_neg hc] at h
    refine z_iconst 1 dX12_of__107 rfl ?_
    refine z_iload v7 dX12_of__108 rfl ?_
    refine z_ishl dX12_of__110 ?_
    refine z_goto 115 dX12_of__111 rfl ?_
    exact zRn.weak h (zLe_of [true, true, true, true, true, true, false, true] (And.intro rfl (And.intro rfl (And.intro rfl (And.intro rfl (And.intro rfl (And.intro rfl (And.intro rfl (And.intro rfl (trivial))))))))))
set_option maxRecDepth 100000 in
set_option maxHeartbeats 4000000 in
theorem bX12_of__115 {X : zX} {d kc ks : Nat} {w : zW} {Q : Option Value → zW → Prop} (v0 : Nat) (v1 : Int32) (v2 : Int32) (v3 : Int32) (v4 : Int32) (v5 : Int32) (v7 : Int32) (u0 : Int32) (u1 : Int32)
    (h : zRn X d kc ks MX12_of_ 36 [some (.ref v0), some (.int v1), some (.int v2), some (.int v3), some (.int v4), some (.int v5), some (.int (u1 ||| u0)), some (.int (v7 + 1))] [] w Q) :
    zRn X d kc ks MX12_of_ 115 [some (.ref v0), some (.int v1), some (.int v2), some (.int v3), some (.int v4), some (.int v5), none, some (.int v7)] [.int u0, .int u1] w Q := by
  refine z_ior dX12_of__115 ?_
  refine z_istore (i := 6) dX12_of__116 (by decide) rfl ?_
  refine z_iinc (i := 7) v7 (v7 + 1) dX12_of__118 rfl rfl (by decide) rfl ?_
  refine z_goto 36 dX12_of__121 rfl ?_
  exact h
theorem eX12_of_ {X : zX} {d kc ks : Nat} {w : zW} {Q : Option Value → zW → Prop} (p0 : Nat) (a1 : Int32) (a2 : Int32) (a3 : Int32) (h : zRn X d kc ks MX12_of_ 0 [some (.ref p0), some (.int a1), some (.int a2), some (.int a3), none, none, none, none] [] w Q) : zEv X d kc ks MX12_of_ [.ref p0, .int a1, .int a2, .int a3] w Q :=
  zEv.of (by decide) (Nat.le_of_ble_eq_true rfl) (Or.inr (by simp [Value.category])) h
set_option maxRecDepth 100000 in
set_option maxHeartbeats 4000000 in
theorem bX12_is_0 {X : zX} {d kc ks : Nat} {w : zW} {Q : Option Value → zW → Prop} (p0 : Nat) (a1 : Int32) (a2 : Int32)
    (h : zIs w p0 11 ∧ zCallI X d MX12_isOrder [.ref p0, .int a1] w (fun x2 w1 => if x2 = 0 then (zRn X d kc ks MX12_is 20 [none, none, none] [] w1 Q) else (zCallI X d MX12_in [.long ((a2 : Int32).toInt64), .long 0, .long 6] w1 (fun x4 w3 => if x4 = 0 then (zRn X d kc ks MX12_is 20 [none, none, none] [] w3 Q) else (zIs w3 p0 11 ∧ zCallI X d MX12_isSo [.ref p0, .int a1, .int a2] w3 (fun x6 w5 => if x6 = 0 then (Q (some (.int 0)) w5) else (Q (some (.int 1)) w5))))))) :
    zRn X d kc ks MX12_is 0 [some (.ref p0), some (.int a1), some (.int a2)] [] w Q := by
  refine z_aload_n p0 dX12_is_0 rfl rfl ?_
  refine z_iload_n a1 dX12_is_1 rfl rfl ?_
  refine zq_VI (N := MX12_isOrder) (As := [.int a1]) m_X12_80 dX12_is_2 rfl rfl (Nat.le_of_ble_eq_true rfl) h (fun x2 w1 h => ?_)
  refine z_if_eq 20 dX12_is_5 rfl (fun hc => ?_) (fun hc => ?_)
  · rw [if_pos hc] at h
    exact zRn.weak h (zLe_of [false, false, false] (And.intro rfl (And.intro rfl (And.intro rfl (trivial)))))
  · rw [if_neg hc] at h
    refine z_iload_n a2 dX12_is_8 rfl rfl ?_
    refine z_i2l dX12_is_9 ?_
    refine z_lconst 0 dX12_is_10 rfl ?_
    refine z_ldc2 6 g_1514 dX12_is_11 ?_
    refine zq_SI (N := MX12_in) (As := [.long ((a2 : Int32).toInt64), .long 0, .long 6]) m_X12_64 dX12_is_14 rfl rfl (Nat.le_of_ble_eq_true rfl) h (fun x4 w3 h => ?_)
    refine z_if_ne 25 dX12_is_17 rfl (fun hc => ?_) (fun hc => ?_)
    · rw [if_neg hc] at h
      refine z_aload_n p0 dX12_is_25 rfl rfl ?_
      refine z_iload_n a1 dX12_is_26 rfl rfl ?_
      refine z_iload_n a2 dX12_is_27 rfl rfl ?_
      refine zq_VI (N := MX12_isSo) (As := [.int a1, .int a2]) m_X12_279 dX12_is_28 rfl rfl (Nat.le_of_ble_eq_true rfl) h (fun x6 w5 h => ?_)
      refine z_if_eq 38 dX12_is_31 rfl (fun hc => ?_) (fun hc => ?_)
      · rw [if_pos hc] at h
        refine z_iconst 0 dX12_is_38 rfl ?_
        exact z_ireturn .int dX12_is_39 rfl rfl h
      · rw [if_neg hc] at h
        refine z_iconst 1 dX12_is_34 rfl ?_
        refine z_goto 39 dX12_is_35 rfl ?_
        exact z_ireturn .int dX12_is_39 rfl rfl h
    · rw [if_pos hc] at h
      exact zRn.weak h (zLe_of [false, false, false] (And.intro rfl (And.intro rfl (And.intro rfl (trivial)))))
set_option maxRecDepth 100000 in
set_option maxHeartbeats 4000000 in
theorem bX12_is_20 {X : zX} {d kc ks : Nat} {w : zW} {Q : Option Value → zW → Prop}
    (h : Q (some (.int (-2))) w) :
    zRn X d kc ks MX12_is 20 [none, none, none] [] w Q := by
  refine z_bipush (-2) dX12_is_20 rfl ?_
  refine z_goto 39 dX12_is_22 rfl ?_
  exact z_ireturn .int dX12_is_39 rfl rfl h
theorem eX12_is {X : zX} {d kc ks : Nat} {w : zW} {Q : Option Value → zW → Prop} (p0 : Nat) (a1 : Int32) (a2 : Int32) (h : zRn X d kc ks MX12_is 0 [some (.ref p0), some (.int a1), some (.int a2)] [] w Q) : zEv X d kc ks MX12_is [.ref p0, .int a1, .int a2] w Q :=
  zEv.of (by decide) (Nat.le_of_ble_eq_true rfl) (Or.inr (by simp [Value.category])) h
set_option maxRecDepth 100000 in
set_option maxHeartbeats 4000000 in
theorem bX12_isSo_0 {X : zX} {d kc ks : Nat} {w : zW} {Q : Option Value → zW → Prop} (p0 : Nat) (a1 : Int32) (a2 : Int32)
    (h : (a2 = 0 → (zIs w p0 11 ∧ zCallI X d MX12_look [.ref p0, .int a1, .int 5] w (fun x2 w1 => if x2 = 0 then (Q (some (.int 1)) w1) else (Q (some (.int 0)) w1)))) ∧ (a2 = 1 → (zIs w p0 11 ∧ zCallI X d MX12_belowMany [.ref p0, .int a1] w (fun x4 w3 => if x4 = 0 then (Q (some (.int 1)) w3) else (Q (some (.int 0)) w3)))) ∧ (a2 = 2 → (zIs w p0 11 ∧ zCallI X d MX12_isWithout [.ref p0, .int a1, .int 2] w (fun x6 w5 => zBool x6 ∧ Q (some (.int x6)) w5))) ∧ (a2 = 3 → (zIs w p0 11 ∧ zCallI X d MX12_isWithout [.ref p0, .int a1, .int 3] w (fun x8 w7 => zBool x8 ∧ Q (some (.int x8)) w7))) ∧ (a2 = 4 → (zIs w p0 11 ∧ zCallI X d MX12_isWithout [.ref p0, .int a1, .int 3] w (fun x10 w9 => if x10 = 0 then (Q (some (.int 0)) w9) else (zIs w9 p0 11 ∧ zCallI X d MX12_isWithout [.ref p0, .int a1, .int 4] w9 (fun x12 w11 => if x12 = 0 then (Q (some (.int 0)) w11) else (Q (some (.int 1)) w11)))))) ∧ (a2 = 5 → (zIs w p0 11 ∧ zCallI X d MX12_isLattice [.ref p0, .int a1] w (fun x14 w13 => zBool x14 ∧ Q (some (.int x14)) w13))) ∧ (¬ (0 ≤ a2 ∧ a2 < 6) → (zIs w p0 11 ∧ zCallI X d MX12_isLevelled [.ref p0, .int a1] w (fun x16 w15 => zBool x16 ∧ Q (some (.int x16)) w15)))) :
    zRn X d kc ks MX12_isSo 0 [some (.ref p0), some (.int a1), some (.int a2)] [] w Q := by
  refine z_iload_n a2 dX12_isSo_0 rfl rfl ?_
  rcases pk_ix a2 (n := 6) (by decide) with hx | hx | ⟨j, hj, hx⟩
  · refine z_tableOut 113 dX12_isSo_1 (zsw_lo hx) rfl ?_
    have h := h.2.2.2.2.2.2 (fun q => absurd hx (Int32.not_lt.mpr q.1))
    refine z_aload_n p0 dX12_isSo_113 rfl rfl ?_
    refine z_iload_n a1 dX12_isSo_114 rfl rfl ?_
    refine zq_VI (N := MX12_isLevelled) (As := [.int a1]) m_X12_274 dX12_isSo_115 rfl rfl (Nat.le_of_ble_eq_true rfl) h (fun x16 w15 h => ?_)
    exact z_ireturn .boolean dX12_isSo_118 rfl (zBool_n h.1) h.2
  · refine z_tableOut 113 dX12_isSo_1 (zsw_hi (n := 6) (by decide) rfl hx) rfl ?_
    have h := h.2.2.2.2.2.2 (fun q => absurd q.2 (Int32.not_lt.mpr hx))
    refine z_aload_n p0 dX12_isSo_113 rfl rfl ?_
    refine z_iload_n a1 dX12_isSo_114 rfl rfl ?_
    refine zq_VI (N := MX12_isLevelled) (As := [.int a1]) m_X12_274 dX12_isSo_115 rfl rfl (Nat.le_of_ble_eq_true rfl) h (fun x16 w15 h => ?_)
    exact z_ireturn .boolean dX12_isSo_118 rfl (zBool_n h.1) h.2
  · rcases (show j = 0 ∨ j = 1 ∨ j = 2 ∨ j = 3 ∨ j = 4 ∨ j = 5 by omega) with rfl | rfl | rfl | rfl | rfl | rfl
    · refine z_tableIn 40 dX12_isSo_1 (by rw [hx]; decide) (by rw [hx]; decide) (by rw [hx]; rfl) rfl ?_
      have h := h.1 hx
      refine z_aload_n p0 dX12_isSo_40 rfl rfl ?_
      refine z_iload_n a1 dX12_isSo_41 rfl rfl ?_
      refine z_iconst 5 dX12_isSo_42 rfl ?_
      refine zq_VI (N := MX12_look) (As := [.int a1, .int 5]) m_X12_265 dX12_isSo_43 rfl rfl (Nat.le_of_ble_eq_true rfl) h (fun x2 w1 h => ?_)
      refine z_if_ne 53 dX12_isSo_46 rfl (fun hc => ?_) (fun hc => ?_)
      · rw [if_neg hc] at h
        refine z_iconst 0 dX12_isSo_53 rfl ?_
        exact z_ireturn .boolean dX12_isSo_54 rfl rfl h
      · rw [if_pos hc] at h
        refine z_iconst 1 dX12_isSo_49 rfl ?_
        refine z_goto 54 dX12_isSo_50 rfl ?_
        exact z_ireturn .boolean dX12_isSo_54 rfl rfl h
    · refine z_tableIn 55 dX12_isSo_1 (by rw [hx]; decide) (by rw [hx]; decide) (by rw [hx]; rfl) rfl ?_
      have h := h.2.1 hx
      refine z_aload_n p0 dX12_isSo_55 rfl rfl ?_
      refine z_iload_n a1 dX12_isSo_56 rfl rfl ?_
      refine zq_VI (N := MX12_belowMany) (As := [.int a1]) m_X12_199 dX12_isSo_57 rfl rfl (Nat.le_of_ble_eq_true rfl) h (fun x4 w3 h => ?_)
      refine z_if_ne 67 dX12_isSo_60 rfl (fun hc => ?_) (fun hc => ?_)
      · rw [if_neg hc] at h
        refine z_iconst 0 dX12_isSo_67 rfl ?_
        exact z_ireturn .boolean dX12_isSo_68 rfl rfl h
      · rw [if_pos hc] at h
        refine z_iconst 1 dX12_isSo_63 rfl ?_
        refine z_goto 68 dX12_isSo_64 rfl ?_
        exact z_ireturn .boolean dX12_isSo_68 rfl rfl h
    · refine z_tableIn 69 dX12_isSo_1 (by rw [hx]; decide) (by rw [hx]; decide) (by rw [hx]; rfl) rfl ?_
      have h := h.2.2.1 hx
      refine z_aload_n p0 dX12_isSo_69 rfl rfl ?_
      refine z_iload_n a1 dX12_isSo_70 rfl rfl ?_
      refine z_iconst 2 dX12_isSo_71 rfl ?_
      refine zq_VI (N := MX12_isWithout) (As := [.int a1, .int 2]) m_X12_268 dX12_isSo_72 rfl rfl (Nat.le_of_ble_eq_true rfl) h (fun x6 w5 h => ?_)
      exact z_ireturn .boolean dX12_isSo_75 rfl (zBool_n h.1) h.2
    · refine z_tableIn 76 dX12_isSo_1 (by rw [hx]; decide) (by rw [hx]; decide) (by rw [hx]; rfl) rfl ?_
      have h := h.2.2.2.1 hx
      refine z_aload_n p0 dX12_isSo_76 rfl rfl ?_
      refine z_iload_n a1 dX12_isSo_77 rfl rfl ?_
      refine z_iconst 3 dX12_isSo_78 rfl ?_
      refine zq_VI (N := MX12_isWithout) (As := [.int a1, .int 3]) m_X12_268 dX12_isSo_79 rfl rfl (Nat.le_of_ble_eq_true rfl) h (fun x8 w7 h => ?_)
      exact z_ireturn .boolean dX12_isSo_82 rfl (zBool_n h.1) h.2
    · refine z_tableIn 83 dX12_isSo_1 (by rw [hx]; decide) (by rw [hx]; decide) (by rw [hx]; rfl) rfl ?_
      have h := h.2.2.2.2.1 hx
      refine z_aload_n p0 dX12_isSo_83 rfl rfl ?_
      refine z_iload_n a1 dX12_isSo_84 rfl rfl ?_
      refine z_iconst 3 dX12_isSo_85 rfl ?_
      refine zq_VI (N := MX12_isWithout) (As := [.int a1, .int 3]) m_X12_268 dX12_isSo_86 rfl rfl (Nat.le_of_ble_eq_true rfl) h (fun x10 w9 h => ?_)
      refine z_if_eq 105 dX12_isSo_89 rfl (fun hc => ?_) (fun hc => ?_)
      · rw [if_pos hc] at h
        refine z_iconst 0 dX12_isSo_105 rfl ?_
        exact z_ireturn .boolean dX12_isSo_106 rfl rfl h
      · rw [if_neg hc] at h
        refine z_aload_n p0 dX12_isSo_92 rfl rfl ?_
        refine z_iload_n a1 dX12_isSo_93 rfl rfl ?_
        refine z_iconst 4 dX12_isSo_94 rfl ?_
        refine zq_VI (N := MX12_isWithout) (As := [.int a1, .int 4]) m_X12_268 dX12_isSo_95 rfl rfl (Nat.le_of_ble_eq_true rfl) h (fun x12 w11 h => ?_)
        refine z_if_eq 105 dX12_isSo_98 rfl (fun hc => ?_) (fun hc => ?_)
        · rw [if_pos hc] at h
          refine z_iconst 0 dX12_isSo_105 rfl ?_
          exact z_ireturn .boolean dX12_isSo_106 rfl rfl h
        · rw [if_neg hc] at h
          refine z_iconst 1 dX12_isSo_101 rfl ?_
          refine z_goto 106 dX12_isSo_102 rfl ?_
          exact z_ireturn .boolean dX12_isSo_106 rfl rfl h
    · refine z_tableIn 107 dX12_isSo_1 (by rw [hx]; decide) (by rw [hx]; decide) (by rw [hx]; rfl) rfl ?_
      have h := h.2.2.2.2.2.1 hx
      refine z_aload_n p0 dX12_isSo_107 rfl rfl ?_
      refine z_iload_n a1 dX12_isSo_108 rfl rfl ?_
      refine zq_VI (N := MX12_isLattice) (As := [.int a1]) m_X12_271 dX12_isSo_109 rfl rfl (Nat.le_of_ble_eq_true rfl) h (fun x14 w13 h => ?_)
      exact z_ireturn .boolean dX12_isSo_112 rfl (zBool_n h.1) h.2
theorem eX12_isSo {X : zX} {d kc ks : Nat} {w : zW} {Q : Option Value → zW → Prop} (p0 : Nat) (a1 : Int32) (a2 : Int32) (h : zRn X d kc ks MX12_isSo 0 [some (.ref p0), some (.int a1), some (.int a2)] [] w Q) : zEv X d kc ks MX12_isSo [.ref p0, .int a1, .int a2] w Q :=
  zEv.of (by decide) (Nat.le_of_ble_eq_true rfl) (Or.inr (by simp [Value.category])) h
set_option maxRecDepth 100000 in
set_option maxHeartbeats 4000000 in
theorem bX12_isWithout_0 {X : zX} {d kc ks : Nat} {w : zW} {Q : Option Value → zW → Prop} (p0 : Nat) (a1 : Int32) (a2 : Int32)
    (h : zIs w p0 11 ∧ zCallI X d MX12_many [.ref p0, .int a1] w (fun x2 w1 => zRn X d kc ks MX12_isWithout 9 [some (.ref p0), some (.int a1), some (.int a2), some (.int x2), some (.int 0)] [] w1 Q)) :
    zRn X d kc ks MX12_isWithout 0 [some (.ref p0), some (.int a1), some (.int a2), none, none] [] w Q := by
  refine z_aload_n p0 dX12_isWithout_0 rfl rfl ?_
  refine z_iload_n a1 dX12_isWithout_1 rfl rfl ?_
  refine zq_VI (N := MX12_many) (As := [.int a1]) m_X12_76 dX12_isWithout_2 rfl rfl (Nat.le_of_ble_eq_true rfl) h (fun x2 w1 h => ?_)
  refine z_istore_n (i := 3) dX12_isWithout_5 rfl (by decide) rfl ?_
  refine z_iconst 0 dX12_isWithout_6 rfl ?_
  refine z_istore (i := 4) dX12_isWithout_7 (by decide) rfl ?_
  exact h
set_option maxRecDepth 100000 in
set_option maxHeartbeats 4000000 in
theorem bX12_isWithout_9 {X : zX} {d kc ks : Nat} {w : zW} {Q : Option Value → zW → Prop} (v0 : Nat) (v1 : Int32) (v2 : Int32) (v3 : Int32) (v4 : Int32)
    (h : if (((v3 * v3) * v3) * v3) ≤ v4 then (Q (some (.int 1)) w) else (¬ v3 = 0 ∧ (¬ v3 = 0 ∧ (¬ v3 = 0 ∧ (¬ v3 = 0 ∧ (¬ v3 = 0 ∧ (¬ v3 = 0 ∧ (¬ v3 = 0 ∧ (¬ v3 = 0 ∧ (¬ v3 = 0 ∧ (zIs w v0 11 ∧ zCallI X d MX12_isOfKind [.ref v0, .int v1, .int v2, .int (((v4 / v3) / v3) / v3), .int (((v4 / v3) / v3) - ((v4 / v3) / v3) / v3 * v3), .int ((v4 / v3) - (v4 / v3) / v3 * v3), .int (v4 - v4 / v3 * v3)] w (fun x2 w1 => if x2 = 0 then (zRn X d kc ks MX12_isWithout 9 [some (.ref v0), some (.int v1), some (.int v2), some (.int v3), some (.int (v4 + 1))] [] w1 Q) else (Q (some (.int 0)) w1))))))))))))) :
    zRn X d kc ks MX12_isWithout 9 [some (.ref v0), some (.int v1), some (.int v2), some (.int v3), some (.int v4)] [] w Q := by
  refine z_iload v4 dX12_isWithout_9 rfl ?_
  refine z_iload_n v3 dX12_isWithout_11 rfl rfl ?_
  refine z_iload_n v3 dX12_isWithout_12 rfl rfl ?_
  refine z_imul dX12_isWithout_13 ?_
  refine z_iload_n v3 dX12_isWithout_14 rfl rfl ?_
  refine z_imul dX12_isWithout_15 ?_
  refine z_iload_n v3 dX12_isWithout_16 rfl rfl ?_
  refine z_imul dX12_isWithout_17 ?_
  refine z_icmp_ge 64 dX12_isWithout_18 rfl (fun hc => ?_) (fun hc => ?_)
  · rw [if_pos hc] at h
    refine z_iconst 1 dX12_isWithout_64 rfl ?_
    exact z_ireturn .boolean dX12_isWithout_65 rfl rfl h
  · rw [if_neg hc] at h
    refine z_aload_n v0 dX12_isWithout_21 rfl rfl ?_
    refine z_iload_n v1 dX12_isWithout_22 rfl rfl ?_
    refine z_iload_n v2 dX12_isWithout_23 rfl rfl ?_
    refine z_iload v4 dX12_isWithout_24 rfl ?_
    refine z_iload_n v3 dX12_isWithout_26 rfl rfl ?_
    refine z_idiv dX12_isWithout_27 h.1 ?_
    have h := h.2
    refine z_iload_n v3 dX12_isWithout_28 rfl rfl ?_
    refine z_idiv dX12_isWithout_29 h.1 ?_
    have h := h.2
    refine z_iload_n v3 dX12_isWithout_30 rfl rfl ?_
    refine z_idiv dX12_isWithout_31 h.1 ?_
    have h := h.2
    refine z_iload v4 dX12_isWithout_32 rfl ?_
    refine z_iload_n v3 dX12_isWithout_34 rfl rfl ?_
    refine z_idiv dX12_isWithout_35 h.1 ?_
    have h := h.2
    refine z_iload_n v3 dX12_isWithout_36 rfl rfl ?_
    refine z_idiv dX12_isWithout_37 h.1 ?_
    have h := h.2
    refine z_iload_n v3 dX12_isWithout_38 rfl rfl ?_
    refine z_irem dX12_isWithout_39 h.1 ?_
    have h := h.2
    refine z_iload v4 dX12_isWithout_40 rfl ?_
    refine z_iload_n v3 dX12_isWithout_42 rfl rfl ?_
    refine z_idiv dX12_isWithout_43 h.1 ?_
    have h := h.2
    refine z_iload_n v3 dX12_isWithout_44 rfl rfl ?_
    refine z_irem dX12_isWithout_45 h.1 ?_
    have h := h.2
    refine z_iload v4 dX12_isWithout_46 rfl ?_
    refine z_iload_n v3 dX12_isWithout_48 rfl rfl ?_
    refine z_irem dX12_isWithout_49 h.1 ?_
    have h := h.2
    refine zq_VI (N := MX12_isOfKind) (As := [.int v1, .int v2, .int (((v4 / v3) / v3) / v3), .int (((v4 / v3) / v3) - ((v4 / v3) / v3) / v3 * v3), .int ((v4 / v3) - (v4 / v3) / v3 * v3), .int (v4 - v4 / v3 * v3)]) m_X12_257 dX12_isWithout_50 rfl rfl (Nat.le_of_ble_eq_true rfl) h (fun x2 w1 h => ?_)
    refine z_if_eq 58 dX12_isWithout_53 rfl (fun hc => ?_) (fun hc => ?_)
    · rw [if_pos hc] at h
      refine z_iinc (i := 4) v4 (v4 + 1) dX12_isWithout_58 rfl rfl (by decide) rfl ?_
      refine z_goto 9 dX12_isWithout_61 rfl ?_
      exact h
    · rw [if_neg hc] at h
      refine z_iconst 0 dX12_isWithout_56 rfl ?_
      exact z_ireturn .boolean dX12_isWithout_57 rfl rfl h
theorem eX12_isWithout {X : zX} {d kc ks : Nat} {w : zW} {Q : Option Value → zW → Prop} (p0 : Nat) (a1 : Int32) (a2 : Int32) (h : zRn X d kc ks MX12_isWithout 0 [some (.ref p0), some (.int a1), some (.int a2), none, none] [] w Q) : zEv X d kc ks MX12_isWithout [.ref p0, .int a1, .int a2] w Q :=
  zEv.of (by decide) (Nat.le_of_ble_eq_true rfl) (Or.inr (by simp [Value.category])) h
set_option maxRecDepth 100000 in
set_option maxHeartbeats 4000000 in
theorem bX12_isOfKind_0 {X : zX} {d kc ks : Nat} {w : zW} {Q : Option Value → zW → Prop} (p0 : Nat) (a1 : Int32) (a2 : Int32) (a3 : Int32) (a4 : Int32) (a5 : Int32) (a6 : Int32)
    (h : if a2 = 2 then (zIs w p0 11 ∧ zCallI X d MX12_isN [.ref p0, .int a1, .int a3, .int a4, .int a5, .int a6] w (fun x6 w5 => zBool x6 ∧ Q (some (.int x6)) w5)) else (if a2 = 3 then (zIs w p0 11 ∧ zCallI X d MX12_isTwoAndTwo [.ref p0, .int a1, .int a3, .int a4, .int a5, .int a6] w (fun x4 w3 => zBool x4 ∧ Q (some (.int x4)) w3)) else (zIs w p0 11 ∧ zCallI X d MX12_isThreeAndOne [.ref p0, .int a1, .int a3, .int a4, .int a5, .int a6] w (fun x2 w1 => zBool x2 ∧ Q (some (.int x2)) w1)))) :
    zRn X d kc ks MX12_isOfKind 0 [some (.ref p0), some (.int a1), some (.int a2), some (.int a3), some (.int a4), some (.int a5), some (.int a6)] [] w Q := by
  refine z_iload_n a2 dX12_isOfKind_0 rfl rfl ?_
  refine z_iconst 2 dX12_isOfKind_1 rfl ?_
  refine z_icmp_ne 20 dX12_isOfKind_2 rfl (fun hc => ?_) (fun hc => ?_)
  · rw [if_neg hc] at h
    refine z_iload_n a2 dX12_isOfKind_20 rfl rfl ?_
    refine z_iconst 3 dX12_isOfKind_21 rfl ?_
    refine z_icmp_ne 40 dX12_isOfKind_22 rfl (fun hc => ?_) (fun hc => ?_)
    · rw [if_neg hc] at h
      refine z_aload_n p0 dX12_isOfKind_40 rfl rfl ?_
      refine z_iload_n a1 dX12_isOfKind_41 rfl rfl ?_
      refine z_iload_n a3 dX12_isOfKind_42 rfl rfl ?_
      refine z_iload a4 dX12_isOfKind_43 rfl ?_
      refine z_iload a5 dX12_isOfKind_45 rfl ?_
      refine z_iload a6 dX12_isOfKind_47 rfl ?_
      refine zq_VI (N := MX12_isThreeAndOne) (As := [.int a1, .int a3, .int a4, .int a5, .int a6]) m_X12_254 dX12_isOfKind_49 rfl rfl (Nat.le_of_ble_eq_true rfl) h (fun x2 w1 h => ?_)
      exact z_ireturn .boolean dX12_isOfKind_52 rfl (zBool_n h.1) h.2
    · rw [if_pos hc] at h
      refine z_aload_n p0 dX12_isOfKind_25 rfl rfl ?_
      refine z_iload_n a1 dX12_isOfKind_26 rfl rfl ?_
      refine z_iload_n a3 dX12_isOfKind_27 rfl rfl ?_
      refine z_iload a4 dX12_isOfKind_28 rfl ?_
      refine z_iload a5 dX12_isOfKind_30 rfl ?_
      refine z_iload a6 dX12_isOfKind_32 rfl ?_
      refine zq_VI (N := MX12_isTwoAndTwo) (As := [.int a1, .int a3, .int a4, .int a5, .int a6]) m_X12_251 dX12_isOfKind_34 rfl rfl (Nat.le_of_ble_eq_true rfl) h (fun x4 w3 h => ?_)
      refine z_goto 52 dX12_isOfKind_37 rfl ?_
      exact z_ireturn .boolean dX12_isOfKind_52 rfl (zBool_n h.1) h.2
  · rw [if_pos hc] at h
    refine z_aload_n p0 dX12_isOfKind_5 rfl rfl ?_
    refine z_iload_n a1 dX12_isOfKind_6 rfl rfl ?_
    refine z_iload_n a3 dX12_isOfKind_7 rfl rfl ?_
    refine z_iload a4 dX12_isOfKind_8 rfl ?_
    refine z_iload a5 dX12_isOfKind_10 rfl ?_
    refine z_iload a6 dX12_isOfKind_12 rfl ?_
    refine zq_VI (N := MX12_isN) (As := [.int a1, .int a3, .int a4, .int a5, .int a6]) m_X12_247 dX12_isOfKind_14 rfl rfl (Nat.le_of_ble_eq_true rfl) h (fun x6 w5 h => ?_)
    refine z_goto 52 dX12_isOfKind_17 rfl ?_
    exact z_ireturn .boolean dX12_isOfKind_52 rfl (zBool_n h.1) h.2
theorem eX12_isOfKind {X : zX} {d kc ks : Nat} {w : zW} {Q : Option Value → zW → Prop} (p0 : Nat) (a1 : Int32) (a2 : Int32) (a3 : Int32) (a4 : Int32) (a5 : Int32) (a6 : Int32) (h : zRn X d kc ks MX12_isOfKind 0 [some (.ref p0), some (.int a1), some (.int a2), some (.int a3), some (.int a4), some (.int a5), some (.int a6)] [] w Q) : zEv X d kc ks MX12_isOfKind [.ref p0, .int a1, .int a2, .int a3, .int a4, .int a5, .int a6] w Q :=
  zEv.of (by decide) (Nat.le_of_ble_eq_true rfl) (Or.inr (by simp [Value.category])) h
set_option maxRecDepth 100000 in
set_option maxHeartbeats 4000000 in
theorem bX12_isN_0 {X : zX} {d kc ks : Nat} {w : zW} {Q : Option Value → zW → Prop} (p0 : Nat) (a1 : Int32) (a2 : Int32) (a3 : Int32) (a4 : Int32) (a5 : Int32)
    (h : zIs w p0 11 ∧ zCallI X d MX12_isBelow [.ref p0, .int a1, .int a2, .int a4] w (fun x2 w1 => if x2 = 0 then (Q (some (.int 0)) w1) else (zIs w1 p0 11 ∧ zCallI X d MX12_isBelow [.ref p0, .int a1, .int a3, .int a4] w1 (fun x4 w3 => if x4 = 0 then (Q (some (.int 0)) w3) else (zIs w3 p0 11 ∧ zCallI X d MX12_isBelow [.ref p0, .int a1, .int a3, .int a5] w3 (fun x6 w5 => if x6 = 0 then (Q (some (.int 0)) w5) else (zIs w5 p0 11 ∧ zCallI X d MX12_areFree [.ref p0, .int a1, .int a2, .int a3] w5 (fun x8 w7 => if x8 = 0 then (Q (some (.int 0)) w7) else (zIs w7 p0 11 ∧ zCallI X d MX12_areFree [.ref p0, .int a1, .int a2, .int a5] w7 (fun x10 w9 => if x10 = 0 then (Q (some (.int 0)) w9) else (zIs w9 p0 11 ∧ zCallI X d MX12_areFree [.ref p0, .int a1, .int a4, .int a5] w9 (fun x12 w11 => if x12 = 0 then (Q (some (.int 0)) w11) else (Q (some (.int 1)) w11))))))))))))) :
    zRn X d kc ks MX12_isN 0 [some (.ref p0), some (.int a1), some (.int a2), some (.int a3), some (.int a4), some (.int a5)] [] w Q := by
  refine z_aload_n p0 dX12_isN_0 rfl rfl ?_
  refine z_iload_n a1 dX12_isN_1 rfl rfl ?_
  refine z_iload_n a2 dX12_isN_2 rfl rfl ?_
  refine z_iload a4 dX12_isN_3 rfl ?_
  refine zq_VI (N := MX12_isBelow) (As := [.int a1, .int a2, .int a4]) m_X12_93 dX12_isN_5 rfl rfl (Nat.le_of_ble_eq_true rfl) h (fun x2 w1 h => ?_)
  refine z_if_eq 70 dX12_isN_8 rfl (fun hc => ?_) (fun hc => ?_)
  · rw [if_pos hc] at h
    refine z_iconst 0 dX12_isN_70 rfl ?_
    exact z_ireturn .boolean dX12_isN_71 rfl rfl h
  · rw [if_neg hc] at h
    refine z_aload_n p0 dX12_isN_11 rfl rfl ?_
    refine z_iload_n a1 dX12_isN_12 rfl rfl ?_
    refine z_iload_n a3 dX12_isN_13 rfl rfl ?_
    refine z_iload a4 dX12_isN_14 rfl ?_
    refine zq_VI (N := MX12_isBelow) (As := [.int a1, .int a3, .int a4]) m_X12_93 dX12_isN_16 rfl rfl (Nat.le_of_ble_eq_true rfl) h (fun x4 w3 h => ?_)
    refine z_if_eq 70 dX12_isN_19 rfl (fun hc => ?_) (fun hc => ?_)
    · rw [if_pos hc] at h
      refine z_iconst 0 dX12_isN_70 rfl ?_
      exact z_ireturn .boolean dX12_isN_71 rfl rfl h
    · rw [if_neg hc] at h
      refine z_aload_n p0 dX12_isN_22 rfl rfl ?_
      refine z_iload_n a1 dX12_isN_23 rfl rfl ?_
      refine z_iload_n a3 dX12_isN_24 rfl rfl ?_
      refine z_iload a5 dX12_isN_25 rfl ?_
      refine zq_VI (N := MX12_isBelow) (As := [.int a1, .int a3, .int a5]) m_X12_93 dX12_isN_27 rfl rfl (Nat.le_of_ble_eq_true rfl) h (fun x6 w5 h => ?_)
      refine z_if_eq 70 dX12_isN_30 rfl (fun hc => ?_) (fun hc => ?_)
      · rw [if_pos hc] at h
        refine z_iconst 0 dX12_isN_70 rfl ?_
        exact z_ireturn .boolean dX12_isN_71 rfl rfl h
      · rw [if_neg hc] at h
        refine z_aload_n p0 dX12_isN_33 rfl rfl ?_
        refine z_iload_n a1 dX12_isN_34 rfl rfl ?_
        refine z_iload_n a2 dX12_isN_35 rfl rfl ?_
        refine z_iload_n a3 dX12_isN_36 rfl rfl ?_
        refine zq_VI (N := MX12_areFree) (As := [.int a1, .int a2, .int a3]) m_X12_227 dX12_isN_37 rfl rfl (Nat.le_of_ble_eq_true rfl) h (fun x8 w7 h => ?_)
        refine z_if_eq 70 dX12_isN_40 rfl (fun hc => ?_) (fun hc => ?_)
        · rw [if_pos hc] at h
          refine z_iconst 0 dX12_isN_70 rfl ?_
          exact z_ireturn .boolean dX12_isN_71 rfl rfl h
        · rw [if_neg hc] at h
          refine z_aload_n p0 dX12_isN_43 rfl rfl ?_
          refine z_iload_n a1 dX12_isN_44 rfl rfl ?_
          refine z_iload_n a2 dX12_isN_45 rfl rfl ?_
          refine z_iload a5 dX12_isN_46 rfl ?_
          refine zq_VI (N := MX12_areFree) (As := [.int a1, .int a2, .int a5]) m_X12_227 dX12_isN_48 rfl rfl (Nat.le_of_ble_eq_true rfl) h (fun x10 w9 h => ?_)
          refine z_if_eq 70 dX12_isN_51 rfl (fun hc => ?_) (fun hc => ?_)
          · rw [if_pos hc] at h
            refine z_iconst 0 dX12_isN_70 rfl ?_
            exact z_ireturn .boolean dX12_isN_71 rfl rfl h
          · rw [if_neg hc] at h
            refine z_aload_n p0 dX12_isN_54 rfl rfl ?_
            refine z_iload_n a1 dX12_isN_55 rfl rfl ?_
            refine z_iload a4 dX12_isN_56 rfl ?_
            refine z_iload a5 dX12_isN_58 rfl ?_
            refine zq_VI (N := MX12_areFree) (As := [.int a1, .int a4, .int a5]) m_X12_227 dX12_isN_60 rfl rfl (Nat.le_of_ble_eq_true rfl) h (fun x12 w11 h => ?_)
            refine z_if_eq 70 dX12_isN_63 rfl (fun hc => ?_) (fun hc => ?_)
            · rw [if_pos hc] at h
              refine z_iconst 0 dX12_isN_70 rfl ?_
              exact z_ireturn .boolean dX12_isN_71 rfl rfl h
            · rw [if_neg hc] at h
              refine z_iconst 1 dX12_isN_66 rfl ?_
              refine z_goto 71 dX12_isN_67 rfl ?_
              exact z_ireturn .boolean dX12_isN_71 rfl rfl h
theorem eX12_isN {X : zX} {d kc ks : Nat} {w : zW} {Q : Option Value → zW → Prop} (p0 : Nat) (a1 : Int32) (a2 : Int32) (a3 : Int32) (a4 : Int32) (a5 : Int32) (h : zRn X d kc ks MX12_isN 0 [some (.ref p0), some (.int a1), some (.int a2), some (.int a3), some (.int a4), some (.int a5)] [] w Q) : zEv X d kc ks MX12_isN [.ref p0, .int a1, .int a2, .int a3, .int a4, .int a5] w Q :=
  zEv.of (by decide) (Nat.le_of_ble_eq_true rfl) (Or.inr (by simp [Value.category])) h
set_option maxRecDepth 100000 in
set_option maxHeartbeats 4000000 in
theorem bX12_isTwoAndTwo_0 {X : zX} {d kc ks : Nat} {w : zW} {Q : Option Value → zW → Prop} (p0 : Nat) (a1 : Int32) (a2 : Int32) (a3 : Int32) (a4 : Int32) (a5 : Int32)
    (h : zIs w p0 11 ∧ zCallI X d MX12_isBelow [.ref p0, .int a1, .int a2, .int a3] w (fun x2 w1 => if x2 = 0 then (Q (some (.int 0)) w1) else (zIs w1 p0 11 ∧ zCallI X d MX12_isBelow [.ref p0, .int a1, .int a4, .int a5] w1 (fun x4 w3 => if x4 = 0 then (Q (some (.int 0)) w3) else (zIs w3 p0 11 ∧ zCallI X d MX12_areFree [.ref p0, .int a1, .int a2, .int a4] w3 (fun x6 w5 => if x6 = 0 then (Q (some (.int 0)) w5) else (zIs w5 p0 11 ∧ zCallI X d MX12_areFree [.ref p0, .int a1, .int a2, .int a5] w5 (fun x8 w7 => if x8 = 0 then (Q (some (.int 0)) w7) else (zIs w7 p0 11 ∧ zCallI X d MX12_areFree [.ref p0, .int a1, .int a3, .int a4] w7 (fun x10 w9 => if x10 = 0 then (Q (some (.int 0)) w9) else (zIs w9 p0 11 ∧ zCallI X d MX12_areFree [.ref p0, .int a1, .int a3, .int a5] w9 (fun x12 w11 => if x12 = 0 then (Q (some (.int 0)) w11) else (Q (some (.int 1)) w11))))))))))))) :
    zRn X d kc ks MX12_isTwoAndTwo 0 [some (.ref p0), some (.int a1), some (.int a2), some (.int a3), some (.int a4), some (.int a5)] [] w Q := by
  refine z_aload_n p0 dX12_isTwoAndTwo_0 rfl rfl ?_
  refine z_iload_n a1 dX12_isTwoAndTwo_1 rfl rfl ?_
  refine z_iload_n a2 dX12_isTwoAndTwo_2 rfl rfl ?_
  refine z_iload_n a3 dX12_isTwoAndTwo_3 rfl rfl ?_
  refine zq_VI (N := MX12_isBelow) (As := [.int a1, .int a2, .int a3]) m_X12_93 dX12_isTwoAndTwo_4 rfl rfl (Nat.le_of_ble_eq_true rfl) h (fun x2 w1 h => ?_)
  refine z_if_eq 70 dX12_isTwoAndTwo_7 rfl (fun hc => ?_) (fun hc => ?_)
  · rw [if_pos hc] at h
    refine z_iconst 0 dX12_isTwoAndTwo_70 rfl ?_
    exact z_ireturn .boolean dX12_isTwoAndTwo_71 rfl rfl h
  · rw [if_neg hc] at h
    refine z_aload_n p0 dX12_isTwoAndTwo_10 rfl rfl ?_
    refine z_iload_n a1 dX12_isTwoAndTwo_11 rfl rfl ?_
    refine z_iload a4 dX12_isTwoAndTwo_12 rfl ?_
    refine z_iload a5 dX12_isTwoAndTwo_14 rfl ?_
    refine zq_VI (N := MX12_isBelow) (As := [.int a1, .int a4, .int a5]) m_X12_93 dX12_isTwoAndTwo_16 rfl rfl (Nat.le_of_ble_eq_true rfl) h (fun x4 w3 h => ?_)
    refine z_if_eq 70 dX12_isTwoAndTwo_19 rfl (fun hc => ?_) (fun hc => ?_)
    · rw [if_pos hc] at h
      refine z_iconst 0 dX12_isTwoAndTwo_70 rfl ?_
      exact z_ireturn .boolean dX12_isTwoAndTwo_71 rfl rfl h
    · rw [if_neg hc] at h
      refine z_aload_n p0 dX12_isTwoAndTwo_22 rfl rfl ?_
      refine z_iload_n a1 dX12_isTwoAndTwo_23 rfl rfl ?_
      refine z_iload_n a2 dX12_isTwoAndTwo_24 rfl rfl ?_
      refine z_iload a4 dX12_isTwoAndTwo_25 rfl ?_
      refine zq_VI (N := MX12_areFree) (As := [.int a1, .int a2, .int a4]) m_X12_227 dX12_isTwoAndTwo_27 rfl rfl (Nat.le_of_ble_eq_true rfl) h (fun x6 w5 h => ?_)
      refine z_if_eq 70 dX12_isTwoAndTwo_30 rfl (fun hc => ?_) (fun hc => ?_)
      · rw [if_pos hc] at h
        refine z_iconst 0 dX12_isTwoAndTwo_70 rfl ?_
        exact z_ireturn .boolean dX12_isTwoAndTwo_71 rfl rfl h
      · rw [if_neg hc] at h
        refine z_aload_n p0 dX12_isTwoAndTwo_33 rfl rfl ?_
        refine z_iload_n a1 dX12_isTwoAndTwo_34 rfl rfl ?_
        refine z_iload_n a2 dX12_isTwoAndTwo_35 rfl rfl ?_
        refine z_iload a5 dX12_isTwoAndTwo_36 rfl ?_
        refine zq_VI (N := MX12_areFree) (As := [.int a1, .int a2, .int a5]) m_X12_227 dX12_isTwoAndTwo_38 rfl rfl (Nat.le_of_ble_eq_true rfl) h (fun x8 w7 h => ?_)
        refine z_if_eq 70 dX12_isTwoAndTwo_41 rfl (fun hc => ?_) (fun hc => ?_)
        · rw [if_pos hc] at h
          refine z_iconst 0 dX12_isTwoAndTwo_70 rfl ?_
          exact z_ireturn .boolean dX12_isTwoAndTwo_71 rfl rfl h
        · rw [if_neg hc] at h
          refine z_aload_n p0 dX12_isTwoAndTwo_44 rfl rfl ?_
          refine z_iload_n a1 dX12_isTwoAndTwo_45 rfl rfl ?_
          refine z_iload_n a3 dX12_isTwoAndTwo_46 rfl rfl ?_
          refine z_iload a4 dX12_isTwoAndTwo_47 rfl ?_
          refine zq_VI (N := MX12_areFree) (As := [.int a1, .int a3, .int a4]) m_X12_227 dX12_isTwoAndTwo_49 rfl rfl (Nat.le_of_ble_eq_true rfl) h (fun x10 w9 h => ?_)
          refine z_if_eq 70 dX12_isTwoAndTwo_52 rfl (fun hc => ?_) (fun hc => ?_)
          · rw [if_pos hc] at h
            refine z_iconst 0 dX12_isTwoAndTwo_70 rfl ?_
            exact z_ireturn .boolean dX12_isTwoAndTwo_71 rfl rfl h
          · rw [if_neg hc] at h
            refine z_aload_n p0 dX12_isTwoAndTwo_55 rfl rfl ?_
            refine z_iload_n a1 dX12_isTwoAndTwo_56 rfl rfl ?_
            refine z_iload_n a3 dX12_isTwoAndTwo_57 rfl rfl ?_
            refine z_iload a5 dX12_isTwoAndTwo_58 rfl ?_
            refine zq_VI (N := MX12_areFree) (As := [.int a1, .int a3, .int a5]) m_X12_227 dX12_isTwoAndTwo_60 rfl rfl (Nat.le_of_ble_eq_true rfl) h (fun x12 w11 h => ?_)
            refine z_if_eq 70 dX12_isTwoAndTwo_63 rfl (fun hc => ?_) (fun hc => ?_)
            · rw [if_pos hc] at h
              refine z_iconst 0 dX12_isTwoAndTwo_70 rfl ?_
              exact z_ireturn .boolean dX12_isTwoAndTwo_71 rfl rfl h
            · rw [if_neg hc] at h
              refine z_iconst 1 dX12_isTwoAndTwo_66 rfl ?_
              refine z_goto 71 dX12_isTwoAndTwo_67 rfl ?_
              exact z_ireturn .boolean dX12_isTwoAndTwo_71 rfl rfl h
theorem eX12_isTwoAndTwo {X : zX} {d kc ks : Nat} {w : zW} {Q : Option Value → zW → Prop} (p0 : Nat) (a1 : Int32) (a2 : Int32) (a3 : Int32) (a4 : Int32) (a5 : Int32) (h : zRn X d kc ks MX12_isTwoAndTwo 0 [some (.ref p0), some (.int a1), some (.int a2), some (.int a3), some (.int a4), some (.int a5)] [] w Q) : zEv X d kc ks MX12_isTwoAndTwo [.ref p0, .int a1, .int a2, .int a3, .int a4, .int a5] w Q :=
  zEv.of (by decide) (Nat.le_of_ble_eq_true rfl) (Or.inr (by simp [Value.category])) h
set_option maxRecDepth 100000 in
set_option maxHeartbeats 4000000 in
theorem bX12_isThreeAndOne_0 {X : zX} {d kc ks : Nat} {w : zW} {Q : Option Value → zW → Prop} (p0 : Nat) (a1 : Int32) (a2 : Int32) (a3 : Int32) (a4 : Int32) (a5 : Int32)
    (h : zIs w p0 11 ∧ zCallI X d MX12_isBelow [.ref p0, .int a1, .int a2, .int a3] w (fun x2 w1 => if x2 = 0 then (Q (some (.int 0)) w1) else (zIs w1 p0 11 ∧ zCallI X d MX12_isBelow [.ref p0, .int a1, .int a3, .int a4] w1 (fun x4 w3 => if x4 = 0 then (Q (some (.int 0)) w3) else (zIs w3 p0 11 ∧ zCallI X d MX12_areFree [.ref p0, .int a1, .int a2, .int a5] w3 (fun x6 w5 => if x6 = 0 then (Q (some (.int 0)) w5) else (zIs w5 p0 11 ∧ zCallI X d MX12_areFree [.ref p0, .int a1, .int a3, .int a5] w5 (fun x8 w7 => if x8 = 0 then (Q (some (.int 0)) w7) else (zIs w7 p0 11 ∧ zCallI X d MX12_areFree [.ref p0, .int a1, .int a4, .int a5] w7 (fun x10 w9 => if x10 = 0 then (Q (some (.int 0)) w9) else (Q (some (.int 1)) w9))))))))))) :
    zRn X d kc ks MX12_isThreeAndOne 0 [some (.ref p0), some (.int a1), some (.int a2), some (.int a3), some (.int a4), some (.int a5)] [] w Q := by
  refine z_aload_n p0 dX12_isThreeAndOne_0 rfl rfl ?_
  refine z_iload_n a1 dX12_isThreeAndOne_1 rfl rfl ?_
  refine z_iload_n a2 dX12_isThreeAndOne_2 rfl rfl ?_
  refine z_iload_n a3 dX12_isThreeAndOne_3 rfl rfl ?_
  refine zq_VI (N := MX12_isBelow) (As := [.int a1, .int a2, .int a3]) m_X12_93 dX12_isThreeAndOne_4 rfl rfl (Nat.le_of_ble_eq_true rfl) h (fun x2 w1 h => ?_)
  refine z_if_eq 59 dX12_isThreeAndOne_7 rfl (fun hc => ?_) (fun hc => ?_)
  · rw [if_pos hc] at h
    refine z_iconst 0 dX12_isThreeAndOne_59 rfl ?_
    exact z_ireturn .boolean dX12_isThreeAndOne_60 rfl rfl h
  · rw [if_neg hc] at h
    refine z_aload_n p0 dX12_isThreeAndOne_10 rfl rfl ?_
    refine z_iload_n a1 dX12_isThreeAndOne_11 rfl rfl ?_
    refine z_iload_n a3 dX12_isThreeAndOne_12 rfl rfl ?_
    refine z_iload a4 dX12_isThreeAndOne_13 rfl ?_
    refine zq_VI (N := MX12_isBelow) (As := [.int a1, .int a3, .int a4]) m_X12_93 dX12_isThreeAndOne_15 rfl rfl (Nat.le_of_ble_eq_true rfl) h (fun x4 w3 h => ?_)
    refine z_if_eq 59 dX12_isThreeAndOne_18 rfl (fun hc => ?_) (fun hc => ?_)
    · rw [if_pos hc] at h
      refine z_iconst 0 dX12_isThreeAndOne_59 rfl ?_
      exact z_ireturn .boolean dX12_isThreeAndOne_60 rfl rfl h
    · rw [if_neg hc] at h
      refine z_aload_n p0 dX12_isThreeAndOne_21 rfl rfl ?_
      refine z_iload_n a1 dX12_isThreeAndOne_22 rfl rfl ?_
      refine z_iload_n a2 dX12_isThreeAndOne_23 rfl rfl ?_
      refine z_iload a5 dX12_isThreeAndOne_24 rfl ?_
      refine zq_VI (N := MX12_areFree) (As := [.int a1, .int a2, .int a5]) m_X12_227 dX12_isThreeAndOne_26 rfl rfl (Nat.le_of_ble_eq_true rfl) h (fun x6 w5 h => ?_)
      refine z_if_eq 59 dX12_isThreeAndOne_29 rfl (fun hc => ?_) (fun hc => ?_)
      · rw [if_pos hc] at h
        refine z_iconst 0 dX12_isThreeAndOne_59 rfl ?_
        exact z_ireturn .boolean dX12_isThreeAndOne_60 rfl rfl h
      · rw [if_neg hc] at h
        refine z_aload_n p0 dX12_isThreeAndOne_32 rfl rfl ?_
        refine z_iload_n a1 dX12_isThreeAndOne_33 rfl rfl ?_
        refine z_iload_n a3 dX12_isThreeAndOne_34 rfl rfl ?_
        refine z_iload a5 dX12_isThreeAndOne_35 rfl ?_
        refine zq_VI (N := MX12_areFree) (As := [.int a1, .int a3, .int a5]) m_X12_227 dX12_isThreeAndOne_37 rfl rfl (Nat.le_of_ble_eq_true rfl) h (fun x8 w7 h => ?_)
        refine z_if_eq 59 dX12_isThreeAndOne_40 rfl (fun hc => ?_) (fun hc => ?_)
        · rw [if_pos hc] at h
          refine z_iconst 0 dX12_isThreeAndOne_59 rfl ?_
          exact z_ireturn .boolean dX12_isThreeAndOne_60 rfl rfl h
        · rw [if_neg hc] at h
          refine z_aload_n p0 dX12_isThreeAndOne_43 rfl rfl ?_
          refine z_iload_n a1 dX12_isThreeAndOne_44 rfl rfl ?_
          refine z_iload a4 dX12_isThreeAndOne_45 rfl ?_
          refine z_iload a5 dX12_isThreeAndOne_47 rfl ?_
          refine zq_VI (N := MX12_areFree) (As := [.int a1, .int a4, .int a5]) m_X12_227 dX12_isThreeAndOne_49 rfl rfl (Nat.le_of_ble_eq_true rfl) h (fun x10 w9 h => ?_)
          refine z_if_eq 59 dX12_isThreeAndOne_52 rfl (fun hc => ?_) (fun hc => ?_)
          · rw [if_pos hc] at h
            refine z_iconst 0 dX12_isThreeAndOne_59 rfl ?_
            exact z_ireturn .boolean dX12_isThreeAndOne_60 rfl rfl h
          · rw [if_neg hc] at h
            refine z_iconst 1 dX12_isThreeAndOne_55 rfl ?_
            refine z_goto 60 dX12_isThreeAndOne_56 rfl ?_
            exact z_ireturn .boolean dX12_isThreeAndOne_60 rfl rfl h
theorem eX12_isThreeAndOne {X : zX} {d kc ks : Nat} {w : zW} {Q : Option Value → zW → Prop} (p0 : Nat) (a1 : Int32) (a2 : Int32) (a3 : Int32) (a4 : Int32) (a5 : Int32) (h : zRn X d kc ks MX12_isThreeAndOne 0 [some (.ref p0), some (.int a1), some (.int a2), some (.int a3), some (.int a4), some (.int a5)] [] w Q) : zEv X d kc ks MX12_isThreeAndOne [.ref p0, .int a1, .int a2, .int a3, .int a4, .int a5] w Q :=
  zEv.of (by decide) (Nat.le_of_ble_eq_true rfl) (Or.inr (by simp [Value.category])) h
set_option maxRecDepth 100000 in
set_option maxHeartbeats 4000000 in
theorem bX12_isLattice_0 {X : zX} {d kc ks : Nat} {w : zW} {Q : Option Value → zW → Prop} (p0 : Nat) (a1 : Int32)
    (h : zRn X d kc ks MX12_isLattice 2 [some (.ref p0), some (.int a1), some (.int 0), none, none, none] [] w Q) :
    zRn X d kc ks MX12_isLattice 0 [some (.ref p0), some (.int a1), none, none, none, none] [] w Q := by
  refine z_iconst 0 dX12_isLattice_0 rfl ?_
  refine z_istore_n (i := 2) dX12_isLattice_1 rfl (by decide) rfl ?_
  exact h
set_option maxRecDepth 100000 in
set_option maxHeartbeats 4000000 in
theorem bX12_isLattice_2 {X : zX} {d kc ks : Nat} {w : zW} {Q : Option Value → zW → Prop} (v0 : Nat) (v1 : Int32) (v2 : Int32)
    (h : zIs w v0 11 ∧ zCallI X d MX12_many [.ref v0, .int v1] w (fun x2 w1 => if x2 ≤ v2 then (Q (some (.int 1)) w1) else (zRn X d kc ks MX12_isLattice 13 [some (.ref v0), some (.int v1), some (.int v2), some (.int 0), none, none] [] w1 Q))) :
    zRn X d kc ks MX12_isLattice 2 [some (.ref v0), some (.int v1), some (.int v2), none, none, none] [] w Q := by
  refine z_iload_n v2 dX12_isLattice_2 rfl rfl ?_
  refine z_aload_n v0 dX12_isLattice_3 rfl rfl ?_
  refine z_iload_n v1 dX12_isLattice_4 rfl rfl ?_
  refine zq_VI (N := MX12_many) (As := [.int v1]) m_X12_76 dX12_isLattice_5 rfl rfl (Nat.le_of_ble_eq_true rfl) h (fun x2 w1 h => ?_)
  refine z_icmp_ge 100 dX12_isLattice_8 rfl (fun hc => ?_) (fun hc => ?_)
  · rw [if_pos hc] at h
    refine z_iconst 1 dX12_isLattice_100 rfl ?_
    exact z_ireturn .boolean dX12_isLattice_101 rfl rfl h
  · rw [if_neg hc] at h
    refine z_iconst 0 dX12_isLattice_11 rfl ?_
    refine z_istore_n (i := 3) dX12_isLattice_12 rfl (by decide) rfl ?_
    exact h
set_option maxRecDepth 100000 in
set_option maxHeartbeats 4000000 in
theorem bX12_isLattice_13 {X : zX} {d kc ks : Nat} {w : zW} {Q : Option Value → zW → Prop} (v0 : Nat) (v1 : Int32) (v2 : Int32) (v3 : Int32)
    (h : if v2 ≤ v3 then (zRn X d kc ks MX12_isLattice 2 [some (.ref v0), some (.int v1), some (.int (v2 + 1)), none, none, none] [] w Q) else (zIs w v0 11 ∧ zCallI X d MX12_over [.ref v0, .int v1, .int v2] w (fun x2 w1 => zIs w1 v0 11 ∧ zCallI X d MX12_over [.ref v0, .int v1, .int v3] w1 (fun x4 w3 => zIs w3 v0 11 ∧ zCallI X d MX12_under [.ref v0, .int v1, .int v2] w3 (fun x6 w5 => zIs w5 v0 11 ∧ zCallI X d MX12_under [.ref v0, .int v1, .int v3] w5 (fun x8 w7 => zIs w7 v0 11 ∧ zCallI X d MX12_hasEnd [.ref v0, .int v1, .int ((x2 ||| ((1 : Int32) <<< (v2 &&& 31))) &&& (x4 ||| ((1 : Int32) <<< (v3 &&& 31)))), .int 1] w7 (fun x10 w9 => if x10 = 0 then (Q (some (.int 0)) w9) else (zIs w9 v0 11 ∧ zCallI X d MX12_hasEnd [.ref v0, .int v1, .int ((x6 ||| ((1 : Int32) <<< (v2 &&& 31))) &&& (x8 ||| ((1 : Int32) <<< (v3 &&& 31)))), .int 0] w9 (fun x12 w11 => if x12 = 0 then (Q (some (.int 0)) w11) else (zRn X d kc ks MX12_isLattice 13 [some (.ref v0), some (.int v1), some (.int v2), some (.int (v3 + 1)), none, none] [] w11 Q)))))))))) :
    zRn X d kc ks MX12_isLattice 13 [some (.ref v0), some (.int v1), some (.int v2), some (.int v3), none, none] [] w Q := by
  refine z_iload_n v3 dX12_isLattice_13 rfl rfl ?_
  refine z_iload_n v2 dX12_isLattice_14 rfl rfl ?_
  refine z_icmp_ge 94 dX12_isLattice_15 rfl (fun hc => ?_) (fun hc => ?_)
  · rw [if_pos hc] at h
    refine z_iinc (i := 2) v2 (v2 + 1) dX12_isLattice_94 rfl rfl (by decide) rfl ?_
    refine z_goto 2 dX12_isLattice_97 rfl ?_
    exact zRn.weak h (zLe_of [true, true, true, false, true, true] (And.intro rfl (And.intro rfl (And.intro rfl (And.intro rfl (And.intro rfl (And.intro rfl (trivial))))))))
  · rw [if_neg hc] at h
    refine z_aload_n v0 dX12_isLattice_18 rfl rfl ?_
    refine z_iload_n v1 dX12_isLattice_19 rfl rfl ?_
    refine z_iload_n v2 dX12_isLattice_20 rfl rfl ?_
    refine zq_VI (N := MX12_over) (As := [.int v1, .int v2]) m_X12_97 dX12_isLattice_21 rfl rfl (Nat.le_of_ble_eq_true rfl) h (fun x2 w1 h => ?_)
    refine z_iconst 1 dX12_isLattice_24 rfl ?_
    refine z_iload_n v2 dX12_isLattice_25 rfl rfl ?_
    refine z_ishl dX12_isLattice_26 ?_
    refine z_ior dX12_isLattice_27 ?_
    refine z_aload_n v0 dX12_isLattice_28 rfl rfl ?_
    refine z_iload_n v1 dX12_isLattice_29 rfl rfl ?_
    refine z_iload_n v3 dX12_isLattice_30 rfl rfl ?_
    refine zq_VI (N := MX12_over) (As := [.int v1, .int v3]) m_X12_97 dX12_isLattice_31 rfl rfl (Nat.le_of_ble_eq_true rfl) h (fun x4 w3 h => ?_)
    refine z_iconst 1 dX12_isLattice_34 rfl ?_
    refine z_iload_n v3 dX12_isLattice_35 rfl rfl ?_
    refine z_ishl dX12_isLattice_36 ?_
    refine z_ior dX12_isLattice_37 ?_
    refine z_iand dX12_isLattice_38 ?_
    refine z_istore (i := 4) dX12_isLattice_39 (by decide) rfl ?_
    refine z_aload_n v0 dX12_isLattice_41 rfl rfl ?_
    refine z_iload_n v1 dX12_isLattice_42 rfl rfl ?_
    refine z_iload_n v2 dX12_isLattice_43 rfl rfl ?_
    refine zq_VI (N := MX12_under) (As := [.int v1, .int v2]) m_X12_86 dX12_isLattice_44 rfl rfl (Nat.le_of_ble_eq_true rfl) h (fun x6 w5 h => ?_)
    refine z_iconst 1 dX12_isLattice_47 rfl ?_
    refine z_iload_n v2 dX12_isLattice_48 rfl rfl ?_
    refine z_ishl dX12_isLattice_49 ?_
    refine z_ior dX12_isLattice_50 ?_
    refine z_aload_n v0 dX12_isLattice_51 rfl rfl ?_
    refine z_iload_n v1 dX12_isLattice_52 rfl rfl ?_
    refine z_iload_n v3 dX12_isLattice_53 rfl rfl ?_
    refine zq_VI (N := MX12_under) (As := [.int v1, .int v3]) m_X12_86 dX12_isLattice_54 rfl rfl (Nat.le_of_ble_eq_true rfl) h (fun x8 w7 h => ?_)
    refine z_iconst 1 dX12_isLattice_57 rfl ?_
    refine z_iload_n v3 dX12_isLattice_58 rfl rfl ?_
    refine z_ishl dX12_isLattice_59 ?_
    refine z_ior dX12_isLattice_60 ?_
    refine z_iand dX12_isLattice_61 ?_
    refine z_istore (i := 5) dX12_isLattice_62 (by decide) rfl ?_
    refine z_aload_n v0 dX12_isLattice_64 rfl rfl ?_
    refine z_iload_n v1 dX12_isLattice_65 rfl rfl ?_
    refine z_iload ((x2 ||| ((1 : Int32) <<< (v2 &&& 31))) &&& (x4 ||| ((1 : Int32) <<< (v3 &&& 31)))) dX12_isLattice_66 rfl ?_
    refine z_iconst 1 dX12_isLattice_68 rfl ?_
    refine zq_VI (N := MX12_hasEnd) (As := [.int v1, .int ((x2 ||| ((1 : Int32) <<< (v2 &&& 31))) &&& (x4 ||| ((1 : Int32) <<< (v3 &&& 31)))), .int 1]) m_X12_261 dX12_isLattice_69 rfl rfl (Nat.le_of_ble_eq_true rfl) h (fun x10 w9 h => ?_)
    refine z_if_eq 86 dX12_isLattice_72 rfl (fun hc => ?_) (fun hc => ?_)
    · rw [if_pos hc] at h
      refine z_iconst 0 dX12_isLattice_86 rfl ?_
      exact z_ireturn .boolean dX12_isLattice_87 rfl rfl h
    · rw [if_neg hc] at h
      refine z_aload_n v0 dX12_isLattice_75 rfl rfl ?_
      refine z_iload_n v1 dX12_isLattice_76 rfl rfl ?_
      refine z_iload ((x6 ||| ((1 : Int32) <<< (v2 &&& 31))) &&& (x8 ||| ((1 : Int32) <<< (v3 &&& 31)))) dX12_isLattice_77 rfl ?_
      refine z_iconst 0 dX12_isLattice_79 rfl ?_
      refine zq_VI (N := MX12_hasEnd) (As := [.int v1, .int ((x6 ||| ((1 : Int32) <<< (v2 &&& 31))) &&& (x8 ||| ((1 : Int32) <<< (v3 &&& 31)))), .int 0]) m_X12_261 dX12_isLattice_80 rfl rfl (Nat.le_of_ble_eq_true rfl) h (fun x12 w11 h => ?_)
      refine z_if_ne 88 dX12_isLattice_83 rfl (fun hc => ?_) (fun hc => ?_)
      · rw [if_neg hc] at h
        refine z_iinc (i := 3) v3 (v3 + 1) dX12_isLattice_88 rfl rfl (by decide) rfl ?_
        refine z_goto 13 dX12_isLattice_91 rfl ?_
        exact zRn.weak h (zLe_of [true, true, true, true, false, false] (And.intro rfl (And.intro rfl (And.intro rfl (And.intro rfl (And.intro rfl (And.intro rfl (trivial))))))))
      · rw [if_pos hc] at h
        refine z_iconst 0 dX12_isLattice_86 rfl ?_
        exact z_ireturn .boolean dX12_isLattice_87 rfl rfl h
theorem eX12_isLattice {X : zX} {d kc ks : Nat} {w : zW} {Q : Option Value → zW → Prop} (p0 : Nat) (a1 : Int32) (h : zRn X d kc ks MX12_isLattice 0 [some (.ref p0), some (.int a1), none, none, none, none] [] w Q) : zEv X d kc ks MX12_isLattice [.ref p0, .int a1] w Q :=
  zEv.of (by decide) (Nat.le_of_ble_eq_true rfl) (Or.inr (by simp [Value.category])) h
set_option maxRecDepth 100000 in
set_option maxHeartbeats 4000000 in
theorem bX12_hasEnd_0 {X : zX} {d kc ks : Nat} {w : zW} {Q : Option Value → zW → Prop} (p0 : Nat) (a1 : Int32) (a2 : Int32) (a3 : Int32)
    (h : zRn X d kc ks MX12_hasEnd 3 [some (.ref p0), some (.int a1), some (.int a2), some (.int a3), some (.int 0), none] [] w Q) :
    zRn X d kc ks MX12_hasEnd 0 [some (.ref p0), some (.int a1), some (.int a2), some (.int a3), none, none] [] w Q := by
  refine z_iconst 0 dX12_hasEnd_0 rfl ?_
  refine z_istore (i := 4) dX12_hasEnd_1 (by decide) rfl ?_
  exact h
set_option maxRecDepth 100000 in
set_option maxHeartbeats 4000000 in
theorem bX12_hasEnd_3 {X : zX} {d kc ks : Nat} {w : zW} {Q : Option Value → zW → Prop} (v0 : Nat) (v1 : Int32) (v2 : Int32) (v3 : Int32) (v4 : Int32)
    (h : zIs w v0 11 ∧ zCallI X d MX12_many [.ref v0, .int v1] w (fun x2 w1 => if x2 ≤ v4 then (Q (some (.int 0)) w1) else (zCallI X d MX12_has [.int v2, .int v4] w1 (fun x4 w3 => if x4 = 0 then (zRn X d kc ks MX12_hasEnd 63 [some (.ref v0), some (.int v1), some (.int v2), some (.int v3), some (.int v4), none] [] w3 Q) else (if v3 = 0 then (zIs w3 v0 11 ∧ zCallI X d MX12_under [.ref v0, .int v1, .int v4] w3 (fun x6 w5 => zRn X d kc ks MX12_hasEnd 55 [some (.ref v0), some (.int v1), some (.int v2), some (.int v3), some (.int v4), none] [.int x6, .int (v2 &&& (((1 : Int32) <<< (v4 &&& 31)) ^^^ (-1)))] w5 Q)) else (zIs w3 v0 11 ∧ zCallI X d MX12_over [.ref v0, .int v1, .int v4] w3 (fun x8 w7 => zRn X d kc ks MX12_hasEnd 55 [some (.ref v0), some (.int v1), some (.int v2), some (.int v3), some (.int v4), none] [.int x8, .int (v2 &&& (((1 : Int32) <<< (v4 &&& 31)) ^^^ (-1)))] w7 Q))))))) :
    zRn X d kc ks MX12_hasEnd 3 [some (.ref v0), some (.int v1), some (.int v2), some (.int v3), some (.int v4), none] [] w Q := by
  refine z_iload v4 dX12_hasEnd_3 rfl ?_
  refine z_aload_n v0 dX12_hasEnd_5 rfl rfl ?_
  refine z_iload_n v1 dX12_hasEnd_6 rfl rfl ?_
  refine zq_VI (N := MX12_many) (As := [.int v1]) m_X12_76 dX12_hasEnd_7 rfl rfl (Nat.le_of_ble_eq_true rfl) h (fun x2 w1 h => ?_)
  refine z_icmp_ge 69 dX12_hasEnd_10 rfl (fun hc => ?_) (fun hc => ?_)
  · rw [if_pos hc] at h
    refine z_iconst 0 dX12_hasEnd_69 rfl ?_
    exact z_ireturn .boolean dX12_hasEnd_70 rfl rfl h
  · rw [if_neg hc] at h
    refine z_iload_n v2 dX12_hasEnd_13 rfl rfl ?_
    refine z_iconst 1 dX12_hasEnd_14 rfl ?_
    refine z_iload v4 dX12_hasEnd_15 rfl ?_
    refine z_ishl dX12_hasEnd_17 ?_
    refine z_iconst (-1) dX12_hasEnd_18 rfl ?_
    refine z_ixor dX12_hasEnd_19 ?_
    refine z_iand dX12_hasEnd_20 ?_
    refine z_istore (i := 5) dX12_hasEnd_21 (by decide) rfl ?_
    refine z_iload_n v2 dX12_hasEnd_23 rfl rfl ?_
    refine z_iload v4 dX12_hasEnd_24 rfl ?_
    refine zq_SI (N := MX12_has) (As := [.int v2, .int v4]) m_X12_89 dX12_hasEnd_26 rfl rfl (Nat.le_of_ble_eq_true rfl) h (fun x4 w3 h => ?_)
    refine z_if_eq 63 dX12_hasEnd_29 rfl (fun hc => ?_) (fun hc => ?_)
    · rw [if_pos hc] at h
      exact zRn.weak h (zLe_of [true, true, true, true, true, false] (And.intro rfl (And.intro rfl (And.intro rfl (And.intro rfl (And.intro rfl (And.intro rfl (trivial))))))))
    · rw [if_neg hc] at h
      refine z_iload (v2 &&& (((1 : Int32) <<< (v4 &&& 31)) ^^^ (-1))) dX12_hasEnd_32 rfl ?_
      refine z_iload_n v3 dX12_hasEnd_34 rfl rfl ?_
      refine z_if_eq 48 dX12_hasEnd_35 rfl (fun hc => ?_) (fun hc => ?_)
      · rw [if_pos hc] at h
        refine z_aload_n v0 dX12_hasEnd_48 rfl rfl ?_
        refine z_iload_n v1 dX12_hasEnd_49 rfl rfl ?_
        refine z_iload v4 dX12_hasEnd_50 rfl ?_
        refine zq_VI (N := MX12_under) (As := [.int v1, .int v4]) m_X12_86 dX12_hasEnd_52 rfl rfl (Nat.le_of_ble_eq_true rfl) h (fun x6 w5 h => ?_)
        exact zRn.weak h (zLe_of [true, true, true, true, true, false] (And.intro rfl (And.intro rfl (And.intro rfl (And.intro rfl (And.intro rfl (And.intro rfl (trivial))))))))
      · rw [if_neg hc] at h
        refine z_aload_n v0 dX12_hasEnd_38 rfl rfl ?_
        refine z_iload_n v1 dX12_hasEnd_39 rfl rfl ?_
        refine z_iload v4 dX12_hasEnd_40 rfl ?_
        refine zq_VI (N := MX12_over) (As := [.int v1, .int v4]) m_X12_97 dX12_hasEnd_42 rfl rfl (Nat.le_of_ble_eq_true rfl) h (fun x8 w7 h => ?_)
        refine z_goto 55 dX12_hasEnd_45 rfl ?_
        exact zRn.weak h (zLe_of [true, true, true, true, true, false] (And.intro rfl (And.intro rfl (And.intro rfl (And.intro rfl (And.intro rfl (And.intro rfl (trivial))))))))
set_option maxRecDepth 100000 in
set_option maxHeartbeats 4000000 in
theorem bX12_hasEnd_55 {X : zX} {d kc ks : Nat} {w : zW} {Q : Option Value → zW → Prop} (v0 : Nat) (v1 : Int32) (v2 : Int32) (v3 : Int32) (v4 : Int32) (u0 : Int32) (u1 : Int32)
    (h : if (u1 &&& (u0 ^^^ (-1))) = 0 then (Q (some (.int 1)) w) else (zRn X d kc ks MX12_hasEnd 63 [some (.ref v0), some (.int v1), some (.int v2), some (.int v3), some (.int v4), none] [] w Q)) :
    zRn X d kc ks MX12_hasEnd 55 [some (.ref v0), some (.int v1), some (.int v2), some (.int v3), some (.int v4), none] [.int u0, .int u1] w Q := by
  refine z_iconst (-1) dX12_hasEnd_55 rfl ?_
  refine z_ixor dX12_hasEnd_56 ?_
  refine z_iand dX12_hasEnd_57 ?_
  refine z_if_ne 63 dX12_hasEnd_58 rfl (fun hc => ?_) (fun hc => ?_)
  · rw [if_neg hc] at h
    exact h
  · rw [if_pos hc] at h
    refine z_iconst 1 dX12_hasEnd_61 rfl ?_
    exact z_ireturn .boolean dX12_hasEnd_62 rfl rfl h
set_option maxRecDepth 100000 in
set_option maxHeartbeats 4000000 in
theorem bX12_hasEnd_63 {X : zX} {d kc ks : Nat} {w : zW} {Q : Option Value → zW → Prop} (v0 : Nat) (v1 : Int32) (v2 : Int32) (v3 : Int32) (v4 : Int32)
    (h : zRn X d kc ks MX12_hasEnd 3 [some (.ref v0), some (.int v1), some (.int v2), some (.int v3), some (.int (v4 + 1)), none] [] w Q) :
    zRn X d kc ks MX12_hasEnd 63 [some (.ref v0), some (.int v1), some (.int v2), some (.int v3), some (.int v4), none] [] w Q := by
  refine z_iinc (i := 4) v4 (v4 + 1) dX12_hasEnd_63 rfl rfl (by decide) rfl ?_
  refine z_goto 3 dX12_hasEnd_66 rfl ?_
  exact h
theorem eX12_hasEnd {X : zX} {d kc ks : Nat} {w : zW} {Q : Option Value → zW → Prop} (p0 : Nat) (a1 : Int32) (a2 : Int32) (a3 : Int32) (h : zRn X d kc ks MX12_hasEnd 0 [some (.ref p0), some (.int a1), some (.int a2), some (.int a3), none, none] [] w Q) : zEv X d kc ks MX12_hasEnd [.ref p0, .int a1, .int a2, .int a3] w Q :=
  zEv.of (by decide) (Nat.le_of_ble_eq_true rfl) (Or.inr (by simp [Value.category])) h
set_option maxRecDepth 100000 in
set_option maxHeartbeats 4000000 in
theorem bX12_isLevelled_0 {X : zX} {d kc ks : Nat} {w : zW} {Q : Option Value → zW → Prop} (p0 : Nat) (a1 : Int32)
    (h : zRn X d kc ks MX12_isLevelled 2 [some (.ref p0), some (.int a1), some (.int 0), none] [] w Q) :
    zRn X d kc ks MX12_isLevelled 0 [some (.ref p0), some (.int a1), none, none] [] w Q := by
  refine z_iconst 0 dX12_isLevelled_0 rfl ?_
  refine z_istore_n (i := 2) dX12_isLevelled_1 rfl (by decide) rfl ?_
  exact h
set_option maxRecDepth 100000 in
set_option maxHeartbeats 4000000 in
theorem bX12_isLevelled_2 {X : zX} {d kc ks : Nat} {w : zW} {Q : Option Value → zW → Prop} (v0 : Nat) (v1 : Int32) (v2 : Int32)
    (h : zIs w v0 11 ∧ zCallI X d MX12_many [.ref v0, .int v1] w (fun x2 w1 => if x2 ≤ v2 then (Q (some (.int 1)) w1) else (zRn X d kc ks MX12_isLevelled 13 [some (.ref v0), some (.int v1), some (.int v2), some (.int 0)] [] w1 Q))) :
    zRn X d kc ks MX12_isLevelled 2 [some (.ref v0), some (.int v1), some (.int v2), none] [] w Q := by
  refine z_iload_n v2 dX12_isLevelled_2 rfl rfl ?_
  refine z_aload_n v0 dX12_isLevelled_3 rfl rfl ?_
  refine z_iload_n v1 dX12_isLevelled_4 rfl rfl ?_
  refine zq_VI (N := MX12_many) (As := [.int v1]) m_X12_76 dX12_isLevelled_5 rfl rfl (Nat.le_of_ble_eq_true rfl) h (fun x2 w1 h => ?_)
  refine z_icmp_ge 65 dX12_isLevelled_8 rfl (fun hc => ?_) (fun hc => ?_)
  · rw [if_pos hc] at h
    refine z_iconst 1 dX12_isLevelled_65 rfl ?_
    exact z_ireturn .boolean dX12_isLevelled_66 rfl rfl h
  · rw [if_neg hc] at h
    refine z_iconst 0 dX12_isLevelled_11 rfl ?_
    refine z_istore_n (i := 3) dX12_isLevelled_12 rfl (by decide) rfl ?_
    exact h
set_option maxRecDepth 100000 in
set_option maxHeartbeats 4000000 in
theorem bX12_isLevelled_13 {X : zX} {d kc ks : Nat} {w : zW} {Q : Option Value → zW → Prop} (v0 : Nat) (v1 : Int32) (v2 : Int32) (v3 : Int32)
    (h : zIs w v0 11 ∧ zCallI X d MX12_many [.ref v0, .int v1] w (fun x2 w1 => if x2 ≤ v3 then (zRn X d kc ks MX12_isLevelled 2 [some (.ref v0), some (.int v1), some (.int (v2 + 1)), none] [] w1 Q) else (zIs w1 v0 11 ∧ zCallI X d MX12_isCover [.ref v0, .int v1, .int v2, .int v3] w1 (fun x4 w3 => if x4 = 0 then (zRn X d kc ks MX12_isLevelled 53 [some (.ref v0), some (.int v1), some (.int v2), some (.int v3)] [] w3 Q) else (zIs w3 v0 11 ∧ zCallI X d MX12_deepOf [.ref v0, .int v1, .int v3, .int 0] w3 (fun x6 w5 => zIs w5 v0 11 ∧ zCallI X d MX12_deepOf [.ref v0, .int v1, .int v2, .int 0] w5 (fun x8 w7 => if x6 = (x8 + 1) then (zRn X d kc ks MX12_isLevelled 53 [some (.ref v0), some (.int v1), some (.int v2), some (.int v3)] [] w7 Q) else (Q (some (.int 0)) w7)))))))) :
    zRn X d kc ks MX12_isLevelled 13 [some (.ref v0), some (.int v1), some (.int v2), some (.int v3)] [] w Q := by
  refine z_iload_n v3 dX12_isLevelled_13 rfl rfl ?_
  refine z_aload_n v0 dX12_isLevelled_14 rfl rfl ?_
  refine z_iload_n v1 dX12_isLevelled_15 rfl rfl ?_
  refine zq_VI (N := MX12_many) (As := [.int v1]) m_X12_76 dX12_isLevelled_16 rfl rfl (Nat.le_of_ble_eq_true rfl) h (fun x2 w1 h => ?_)
  refine z_icmp_ge 59 dX12_isLevelled_19 rfl (fun hc => ?_) (fun hc => ?_)
  · rw [if_pos hc] at h
    refine z_iinc (i := 2) v2 (v2 + 1) dX12_isLevelled_59 rfl rfl (by decide) rfl ?_
    refine z_goto 2 dX12_isLevelled_62 rfl ?_
    exact zRn.weak h (zLe_of [true, true, true, false] (And.intro rfl (And.intro rfl (And.intro rfl (And.intro rfl (trivial))))))
  · rw [if_neg hc] at h
    refine z_aload_n v0 dX12_isLevelled_22 rfl rfl ?_
    refine z_iload_n v1 dX12_isLevelled_23 rfl rfl ?_
    refine z_iload_n v2 dX12_isLevelled_24 rfl rfl ?_
    refine z_iload_n v3 dX12_isLevelled_25 rfl rfl ?_
    refine zq_VI (N := MX12_isCover) (As := [.int v1, .int v2, .int v3]) m_X12_236 dX12_isLevelled_26 rfl rfl (Nat.le_of_ble_eq_true rfl) h (fun x4 w3 h => ?_)
    refine z_if_eq 53 dX12_isLevelled_29 rfl (fun hc => ?_) (fun hc => ?_)
    · rw [if_pos hc] at h
      exact h
    · rw [if_neg hc] at h
      refine z_aload_n v0 dX12_isLevelled_32 rfl rfl ?_
      refine z_iload_n v1 dX12_isLevelled_33 rfl rfl ?_
      refine z_iload_n v3 dX12_isLevelled_34 rfl rfl ?_
      refine z_iconst 0 dX12_isLevelled_35 rfl ?_
      refine zq_VI (N := MX12_deepOf) (As := [.int v1, .int v3, .int 0]) m_X12_208 dX12_isLevelled_36 rfl rfl (Nat.le_of_ble_eq_true rfl) h (fun x6 w5 h => ?_)
      refine z_aload_n v0 dX12_isLevelled_39 rfl rfl ?_
      refine z_iload_n v1 dX12_isLevelled_40 rfl rfl ?_
      refine z_iload_n v2 dX12_isLevelled_41 rfl rfl ?_
      refine z_iconst 0 dX12_isLevelled_42 rfl ?_
      refine zq_VI (N := MX12_deepOf) (As := [.int v1, .int v2, .int 0]) m_X12_208 dX12_isLevelled_43 rfl rfl (Nat.le_of_ble_eq_true rfl) h (fun x8 w7 h => ?_)
      refine z_iconst 1 dX12_isLevelled_46 rfl ?_
      refine z_iadd dX12_isLevelled_47 ?_
      refine z_icmp_eq 53 dX12_isLevelled_48 rfl (fun hc => ?_) (fun hc => ?_)
      · rw [if_pos hc] at h
        exact h
      · rw [if_neg hc] at h
        refine z_iconst 0 dX12_isLevelled_51 rfl ?_
        exact z_ireturn .boolean dX12_isLevelled_52 rfl rfl h
set_option maxRecDepth 100000 in
set_option maxHeartbeats 4000000 in
theorem bX12_isLevelled_53 {X : zX} {d kc ks : Nat} {w : zW} {Q : Option Value → zW → Prop} (v0 : Nat) (v1 : Int32) (v2 : Int32) (v3 : Int32)
    (h : zRn X d kc ks MX12_isLevelled 13 [some (.ref v0), some (.int v1), some (.int v2), some (.int (v3 + 1))] [] w Q) :
    zRn X d kc ks MX12_isLevelled 53 [some (.ref v0), some (.int v1), some (.int v2), some (.int v3)] [] w Q := by
  refine z_iinc (i := 3) v3 (v3 + 1) dX12_isLevelled_53 rfl rfl (by decide) rfl ?_
  refine z_goto 13 dX12_isLevelled_56 rfl ?_
  exact h
theorem eX12_isLevelled {X : zX} {d kc ks : Nat} {w : zW} {Q : Option Value → zW → Prop} (p0 : Nat) (a1 : Int32) (h : zRn X d kc ks MX12_isLevelled 0 [some (.ref p0), some (.int a1), none, none] [] w Q) : zEv X d kc ks MX12_isLevelled [.ref p0, .int a1] w Q :=
  zEv.of (by decide) (Nat.le_of_ble_eq_true rfl) (Or.inr (by simp [Value.category])) h
set_option maxRecDepth 100000 in
set_option maxHeartbeats 4000000 in
theorem bX12_lines_0 {X : zX} {d kc ks : Nat} {w : zW} {Q : Option Value → zW → Prop} (p0 : Nat) (a1 : Int32)
    (h : zIs w p0 11 ∧ zCallI X d MX12_isOrder [.ref p0, .int a1] w (fun x2 w1 => if x2 = 0 then (Q (some (.int (-2))) w1) else (zIs w1 p0 11 ∧ zCallV X d MX12_laysLines [.ref p0, .int a1] w1 (fun w3 => ∃ r4, zfR w3 p0 11 14 = some r4 ∧ (∃ x5, zfI w3 p0 11 16 = some x5 ∧ (∃ x6, zaI w3 r4 x5 = some x6 ∧ (Q (some (.int x6)) w3))))))) :
    zRn X d kc ks MX12_lines 0 [some (.ref p0), some (.int a1)] [] w Q := by
  refine z_aload_n p0 dX12_lines_0 rfl rfl ?_
  refine z_iload_n a1 dX12_lines_1 rfl rfl ?_
  refine zq_VI (N := MX12_isOrder) (As := [.int a1]) m_X12_80 dX12_lines_2 rfl rfl (Nat.le_of_ble_eq_true rfl) h (fun x2 w1 h => ?_)
  refine z_if_ne 11 dX12_lines_5 rfl (fun hc => ?_) (fun hc => ?_)
  · rw [if_neg hc] at h
    refine z_aload_n p0 dX12_lines_11 rfl rfl ?_
    refine z_iload_n a1 dX12_lines_12 rfl rfl ?_
    refine zq_VV (N := MX12_laysLines) (As := [.int a1]) m_X12_285 dX12_lines_13 rfl rfl (Nat.le_of_ble_eq_true rfl) h (fun w3 h => ?_)
    refine z_aload_n p0 dX12_lines_16 rfl rfl ?_
    obtain ⟨r4, e, h⟩ := h
    refine zq_fR f_X12_29 dX12_lines_17 e ?_
    refine z_aload_n p0 dX12_lines_20 rfl rfl ?_
    obtain ⟨x5, e, h⟩ := h
    refine zq_fI f_X12_282 dX12_lines_21 e ?_
    obtain ⟨x6, e, h⟩ := h
    refine zq_aI dX12_lines_24 e ?_
    exact z_ireturn .int dX12_lines_25 rfl rfl h
  · rw [if_pos hc] at h
    refine z_bipush (-2) dX12_lines_8 rfl ?_
    exact z_ireturn .int dX12_lines_10 rfl rfl h
theorem eX12_lines {X : zX} {d kc ks : Nat} {w : zW} {Q : Option Value → zW → Prop} (p0 : Nat) (a1 : Int32) (h : zRn X d kc ks MX12_lines 0 [some (.ref p0), some (.int a1)] [] w Q) : zEv X d kc ks MX12_lines [.ref p0, .int a1] w Q :=
  zEv.of (by decide) (Nat.le_of_ble_eq_true rfl) (Or.inr (by simp [Value.category])) h
set_option maxRecDepth 100000 in
set_option maxHeartbeats 4000000 in
theorem bX12_laysLines_0 {X : zX} {d kc ks : Nat} {w : zW} {Q : Option Value → zW → Prop} (p0 : Nat) (a1 : Int32)
    (h : zIs w p0 11 ∧ zCallI X d MX12_many [.ref p0, .int a1] w (fun x2 w1 => ∃ w3, zsF w1 p0 11 16 (.int (((1 : Int32) <<< (x2 &&& 31)) - 1)) = some w3 ∧ (zRn X d kc ks MX12_laysLines 15 [some (.ref p0), some (.int a1), some (.int 0), none, none] [] w3 Q))) :
    zRn X d kc ks MX12_laysLines 0 [some (.ref p0), some (.int a1), none, none, none] [] w Q := by
  refine z_aload_n p0 dX12_laysLines_0 rfl rfl ?_
  refine z_iconst 1 dX12_laysLines_1 rfl ?_
  refine z_aload_n p0 dX12_laysLines_2 rfl rfl ?_
  refine z_iload_n a1 dX12_laysLines_3 rfl rfl ?_
  refine zq_VI (N := MX12_many) (As := [.int a1]) m_X12_76 dX12_laysLines_4 rfl rfl (Nat.le_of_ble_eq_true rfl) h (fun x2 w1 h => ?_)
  refine z_ishl dX12_laysLines_7 ?_
  refine z_iconst 1 dX12_laysLines_8 rfl ?_
  refine z_isub dX12_laysLines_9 ?_
  obtain ⟨w3, e, h⟩ := h
  refine zq_sF f_X12_282 dX12_laysLines_10 (fun _ => rfl) (fun _ => rfl) e ?_
  refine z_iconst 0 dX12_laysLines_13 rfl ?_
  refine z_istore_n (i := 2) dX12_laysLines_14 rfl (by decide) rfl ?_
  exact h
set_option maxRecDepth 100000 in
set_option maxHeartbeats 4000000 in
theorem bX12_laysLines_15 {X : zX} {d kc ks : Nat} {w : zW} {Q : Option Value → zW → Prop} (v0 : Nat) (v1 : Int32) (v2 : Int32)
    (h : ∃ x1, zfI w v0 11 16 = some x1 ∧ (if x1 < v2 then (∃ x2, zfI w v0 11 16 = some x2 ∧ (zRn X d kc ks MX12_laysLines 117 [some (.ref v0), some (.int v1), some (.int x2), none, none] [] w Q)) else (∃ r3, zfR w v0 11 14 = some r3 ∧ (if v2 = 0 then (zRn X d kc ks MX12_laysLines 37 [some (.ref v0), some (.int v1), some (.int v2), none, none] [.int 1, .int v2, .ref r3] w Q) else (zRn X d kc ks MX12_laysLines 37 [some (.ref v0), some (.int v1), some (.int v2), none, none] [.int 0, .int v2, .ref r3] w Q))))) :
    zRn X d kc ks MX12_laysLines 15 [some (.ref v0), some (.int v1), some (.int v2), none, none] [] w Q := by
  refine z_iload_n v2 dX12_laysLines_15 rfl rfl ?_
  refine z_aload_n v0 dX12_laysLines_16 rfl rfl ?_
  obtain ⟨x1, e, h⟩ := h
  refine zq_fI f_X12_282 dX12_laysLines_17 e ?_
  refine z_icmp_gt 112 dX12_laysLines_20 rfl (fun hc => ?_) (fun hc => ?_)
  · rw [if_pos hc] at h
    refine z_aload_n v0 dX12_laysLines_112 rfl rfl ?_
    obtain ⟨x2, e, h⟩ := h
    refine zq_fI f_X12_282 dX12_laysLines_113 e ?_
    refine z_istore_n (i := 2) dX12_laysLines_116 rfl (by decide) rfl ?_
    exact h
  · rw [if_neg hc] at h
    refine z_aload_n v0 dX12_laysLines_23 rfl rfl ?_
    obtain ⟨r3, e, h⟩ := h
    refine zq_fR f_X12_29 dX12_laysLines_24 e ?_
    refine z_iload_n v2 dX12_laysLines_27 rfl rfl ?_
    refine z_iload_n v2 dX12_laysLines_28 rfl rfl ?_
    refine z_if_ne 36 dX12_laysLines_29 rfl (fun hc => ?_) (fun hc => ?_)
    · rw [if_neg hc] at h
      refine z_iconst 0 dX12_laysLines_36 rfl ?_
      exact h
    · rw [if_pos hc] at h
      refine z_iconst 1 dX12_laysLines_32 rfl ?_
      refine z_goto 37 dX12_laysLines_33 rfl ?_
      exact h
set_option maxRecDepth 100000 in
set_option maxHeartbeats 4000000 in
theorem bX12_laysLines_37 {X : zX} {d kc ks : Nat} {w : zW} {Q : Option Value → zW → Prop} (v0 : Nat) (v1 : Int32) (v2 : Int32) (u0 : Int32) (u1 : Int32) (u2 : Nat)
    (h : ∃ w1, zsI w u2 u1 u0 = some w1 ∧ (zRn X d kc ks MX12_laysLines 40 [some (.ref v0), some (.int v1), some (.int v2), some (.int 0), none] [] w1 Q)) :
    zRn X d kc ks MX12_laysLines 37 [some (.ref v0), some (.int v1), some (.int v2), none, none] [.int u0, .int u1, .ref u2] w Q := by
  obtain ⟨w1, e, h⟩ := h
  refine zq_sI dX12_laysLines_37 e ?_
  refine z_iconst 0 dX12_laysLines_38 rfl ?_
  refine z_istore_n (i := 3) dX12_laysLines_39 rfl (by decide) rfl ?_
  exact h
set_option maxRecDepth 100000 in
set_option maxHeartbeats 4000000 in
theorem bX12_laysLines_40 {X : zX} {d kc ks : Nat} {w : zW} {Q : Option Value → zW → Prop} (v0 : Nat) (v1 : Int32) (v2 : Int32) (v3 : Int32)
    (h : zIs w v0 11 ∧ zCallI X d MX12_many [.ref v0, .int v1] w (fun x2 w1 => if x2 ≤ v3 then (zRn X d kc ks MX12_laysLines 15 [some (.ref v0), some (.int v1), some (.int (v2 + 1)), none, none] [] w1 Q) else (∃ r3, zfR w1 v0 11 14 = some r3 ∧ (∃ x4, zaI w1 r3 v2 = some x4 ∧ (zCallI X d MX12_has [.int v2, .int v3] w1 (fun x6 w5 => if x6 = 0 then (zRn X d kc ks MX12_laysLines 97 [some (.ref v0), some (.int v1), some (.int v2), some (.int v3), none] [.int x4, .int v2, .ref r3] w5 Q) else (zIs w5 v0 11 ∧ zCallI X d MX12_under [.ref v0, .int v1, .int v3] w5 (fun x8 w7 => if (x8 &&& ((v2 &&& (((1 : Int32) <<< (v3 &&& 31)) ^^^ (-1))) ^^^ (-1))) = 0 then (∃ r9, zfR w7 v0 11 14 = some r9 ∧ (∃ x10, zaI w7 r9 (v2 &&& (((1 : Int32) <<< (v3 &&& 31)) ^^^ (-1))) = some x10 ∧ (zRn X d kc ks MX12_laysLines 98 [some (.ref v0), some (.int v1), some (.int v2), some (.int v3), none] [.int x10, .int x4, .int v2, .ref r3] w7 Q))) else (zRn X d kc ks MX12_laysLines 97 [some (.ref v0), some (.int v1), some (.int v2), some (.int v3), none] [.int x4, .int v2, .ref r3] w7 Q))))))))) :
    zRn X d kc ks MX12_laysLines 40 [some (.ref v0), some (.int v1), some (.int v2), some (.int v3), none] [] w Q := by
  refine z_iload_n v3 dX12_laysLines_40 rfl rfl ?_
  refine z_aload_n v0 dX12_laysLines_41 rfl rfl ?_
  refine z_iload_n v1 dX12_laysLines_42 rfl rfl ?_
  refine zq_VI (N := MX12_many) (As := [.int v1]) m_X12_76 dX12_laysLines_43 rfl rfl (Nat.le_of_ble_eq_true rfl) h (fun x2 w1 h => ?_)
  refine z_icmp_ge 106 dX12_laysLines_46 rfl (fun hc => ?_) (fun hc => ?_)
  · rw [if_pos hc] at h
    refine z_iinc (i := 2) v2 (v2 + 1) dX12_laysLines_106 rfl rfl (by decide) rfl ?_
    refine z_goto 15 dX12_laysLines_109 rfl ?_
    exact zRn.weak h (zLe_of [true, true, true, false, true] (And.intro rfl (And.intro rfl (And.intro rfl (And.intro rfl (And.intro rfl (trivial)))))))
  · rw [if_neg hc] at h
    refine z_iload_n v2 dX12_laysLines_49 rfl rfl ?_
    refine z_iconst 1 dX12_laysLines_50 rfl ?_
    refine z_iload_n v3 dX12_laysLines_51 rfl rfl ?_
    refine z_ishl dX12_laysLines_52 ?_
    refine z_iconst (-1) dX12_laysLines_53 rfl ?_
    refine z_ixor dX12_laysLines_54 ?_
    refine z_iand dX12_laysLines_55 ?_
    refine z_istore (i := 4) dX12_laysLines_56 (by decide) rfl ?_
    refine z_aload_n v0 dX12_laysLines_58 rfl rfl ?_
    obtain ⟨r3, e, h⟩ := h
    refine zq_fR f_X12_29 dX12_laysLines_59 e ?_
    refine z_iload_n v2 dX12_laysLines_62 rfl rfl ?_
    refine z_dup2 dX12_laysLines_63 rfl rfl ?_
    obtain ⟨x4, e, h⟩ := h
    refine zq_aI dX12_laysLines_64 e ?_
    refine z_iload_n v2 dX12_laysLines_65 rfl rfl ?_
    refine z_iload_n v3 dX12_laysLines_66 rfl rfl ?_
    refine zq_SI (N := MX12_has) (As := [.int v2, .int v3]) m_X12_89 dX12_laysLines_67 rfl rfl (Nat.le_of_ble_eq_true rfl) h (fun x6 w5 h => ?_)
    refine z_if_eq 97 dX12_laysLines_70 rfl (fun hc => ?_) (fun hc => ?_)
    · rw [if_pos hc] at h
      exact zRn.weak h (zLe_of [true, true, true, true, false] (And.intro rfl (And.intro rfl (And.intro rfl (And.intro rfl (And.intro rfl (trivial)))))))
    · rw [if_neg hc] at h
      refine z_aload_n v0 dX12_laysLines_73 rfl rfl ?_
      refine z_iload_n v1 dX12_laysLines_74 rfl rfl ?_
      refine z_iload_n v3 dX12_laysLines_75 rfl rfl ?_
      refine zq_VI (N := MX12_under) (As := [.int v1, .int v3]) m_X12_86 dX12_laysLines_76 rfl rfl (Nat.le_of_ble_eq_true rfl) h (fun x8 w7 h => ?_)
      refine z_iload (v2 &&& (((1 : Int32) <<< (v3 &&& 31)) ^^^ (-1))) dX12_laysLines_79 rfl ?_
      refine z_iconst (-1) dX12_laysLines_81 rfl ?_
      refine z_ixor dX12_laysLines_82 ?_
      refine z_iand dX12_laysLines_83 ?_
      refine z_if_ne 97 dX12_laysLines_84 rfl (fun hc => ?_) (fun hc => ?_)
      · rw [if_neg hc] at h
        exact zRn.weak h (zLe_of [true, true, true, true, false] (And.intro rfl (And.intro rfl (And.intro rfl (And.intro rfl (And.intro rfl (trivial)))))))
      · rw [if_pos hc] at h
        refine z_aload_n v0 dX12_laysLines_87 rfl rfl ?_
        obtain ⟨r9, e, h⟩ := h
        refine zq_fR f_X12_29 dX12_laysLines_88 e ?_
        refine z_iload (v2 &&& (((1 : Int32) <<< (v3 &&& 31)) ^^^ (-1))) dX12_laysLines_91 rfl ?_
        obtain ⟨x10, e, h⟩ := h
        refine zq_aI dX12_laysLines_93 e ?_
        refine z_goto 98 dX12_laysLines_94 rfl ?_
        exact zRn.weak h (zLe_of [true, true, true, true, false] (And.intro rfl (And.intro rfl (And.intro rfl (And.intro rfl (And.intro rfl (trivial)))))))
set_option maxRecDepth 100000 in
set_option maxHeartbeats 4000000 in
theorem bX12_laysLines_97 {X : zX} {d kc ks : Nat} {w : zW} {Q : Option Value → zW → Prop} (v0 : Nat) (v1 : Int32) (v2 : Int32) (v3 : Int32) (u0 : Int32) (u1 : Int32) (u2 : Nat)
    (h : zRn X d kc ks MX12_laysLines 98 [some (.ref v0), some (.int v1), some (.int v2), some (.int v3), none] [.int 0, .int u0, .int u1, .ref u2] w Q) :
    zRn X d kc ks MX12_laysLines 97 [some (.ref v0), some (.int v1), some (.int v2), some (.int v3), none] [.int u0, .int u1, .ref u2] w Q := by
  refine z_iconst 0 dX12_laysLines_97 rfl ?_
  exact h
set_option maxRecDepth 100000 in
set_option maxHeartbeats 4000000 in
theorem bX12_laysLines_98 {X : zX} {d kc ks : Nat} {w : zW} {Q : Option Value → zW → Prop} (v0 : Nat) (v1 : Int32) (v2 : Int32) (v3 : Int32) (u0 : Int32) (u1 : Int32) (u2 : Int32) (u3 : Nat)
    (h : ∃ w1, zsI w u3 u2 (u1 + u0) = some w1 ∧ (zRn X d kc ks MX12_laysLines 40 [some (.ref v0), some (.int v1), some (.int v2), some (.int (v3 + 1)), none] [] w1 Q)) :
    zRn X d kc ks MX12_laysLines 98 [some (.ref v0), some (.int v1), some (.int v2), some (.int v3), none] [.int u0, .int u1, .int u2, .ref u3] w Q := by
  refine z_iadd dX12_laysLines_98 ?_
  obtain ⟨w1, e, h⟩ := h
  refine zq_sI dX12_laysLines_99 e ?_
  refine z_iinc (i := 3) v3 (v3 + 1) dX12_laysLines_100 rfl rfl (by decide) rfl ?_
  refine z_goto 40 dX12_laysLines_103 rfl ?_
  exact h
set_option maxRecDepth 100000 in
set_option maxHeartbeats 4000000 in
theorem bX12_laysLines_117 {X : zX} {d kc ks : Nat} {w : zW} {Q : Option Value → zW → Prop} (v0 : Nat) (v1 : Int32) (v2 : Int32)
    (h : if v2 < 0 then (Q none w) else (∃ r1, zfR w v0 11 15 = some r1 ∧ (∃ x2, zfI w v0 11 16 = some x2 ∧ (if v2 = x2 then (zRn X d kc ks MX12_laysLines 139 [some (.ref v0), some (.int v1), some (.int v2), none, none] [.int 1, .int v2, .ref r1] w Q) else (zRn X d kc ks MX12_laysLines 139 [some (.ref v0), some (.int v1), some (.int v2), none, none] [.int 0, .int v2, .ref r1] w Q))))) :
    zRn X d kc ks MX12_laysLines 117 [some (.ref v0), some (.int v1), some (.int v2), none, none] [] w Q := by
  refine z_iload_n v2 dX12_laysLines_117 rfl rfl ?_
  refine z_if_lt 207 dX12_laysLines_118 rfl (fun hc => ?_) (fun hc => ?_)
  · rw [if_pos hc] at h
    exact z_vreturn dX12_laysLines_207 rfl h
  · rw [if_neg hc] at h
    refine z_aload_n v0 dX12_laysLines_121 rfl rfl ?_
    obtain ⟨r1, e, h⟩ := h
    refine zq_fR f_X12_32 dX12_laysLines_122 e ?_
    refine z_iload_n v2 dX12_laysLines_125 rfl rfl ?_
    refine z_iload_n v2 dX12_laysLines_126 rfl rfl ?_
    refine z_aload_n v0 dX12_laysLines_127 rfl rfl ?_
    obtain ⟨x2, e, h⟩ := h
    refine zq_fI f_X12_282 dX12_laysLines_128 e ?_
    refine z_icmp_ne 138 dX12_laysLines_131 rfl (fun hc => ?_) (fun hc => ?_)
    · rw [if_neg hc] at h
      refine z_iconst 0 dX12_laysLines_138 rfl ?_
      exact h
    · rw [if_pos hc] at h
      refine z_iconst 1 dX12_laysLines_134 rfl ?_
      refine z_goto 139 dX12_laysLines_135 rfl ?_
      exact h
set_option maxRecDepth 100000 in
set_option maxHeartbeats 4000000 in
theorem bX12_laysLines_139 {X : zX} {d kc ks : Nat} {w : zW} {Q : Option Value → zW → Prop} (v0 : Nat) (v1 : Int32) (v2 : Int32) (u0 : Int32) (u1 : Int32) (u2 : Nat)
    (h : ∃ w1, zsI w u2 u1 u0 = some w1 ∧ (zRn X d kc ks MX12_laysLines 142 [some (.ref v0), some (.int v1), some (.int v2), some (.int 0), none] [] w1 Q)) :
    zRn X d kc ks MX12_laysLines 139 [some (.ref v0), some (.int v1), some (.int v2), none, none] [.int u0, .int u1, .ref u2] w Q := by
  obtain ⟨w1, e, h⟩ := h
  refine zq_sI dX12_laysLines_139 e ?_
  refine z_iconst 0 dX12_laysLines_140 rfl ?_
  refine z_istore_n (i := 3) dX12_laysLines_141 rfl (by decide) rfl ?_
  exact h
set_option maxRecDepth 100000 in
set_option maxHeartbeats 4000000 in
theorem bX12_laysLines_142 {X : zX} {d kc ks : Nat} {w : zW} {Q : Option Value → zW → Prop} (v0 : Nat) (v1 : Int32) (v2 : Int32) (v3 : Int32)
    (h : zIs w v0 11 ∧ zCallI X d MX12_many [.ref v0, .int v1] w (fun x2 w1 => if x2 ≤ v3 then (zRn X d kc ks MX12_laysLines 117 [some (.ref v0), some (.int v1), some (.int (v2 - 1)), none, none] [] w1 Q) else (∃ r3, zfR w1 v0 11 15 = some r3 ∧ (∃ x4, zaI w1 r3 v2 = some x4 ∧ (zCallI X d MX12_has [.int v2, .int v3] w1 (fun x6 w5 => if x6 = 0 then (zIs w5 v0 11 ∧ zCallI X d MX12_under [.ref v0, .int v1, .int v3] w5 (fun x8 w7 => if (x8 &&& (v2 ^^^ (-1))) = 0 then (∃ r9, zfR w7 v0 11 15 = some r9 ∧ (∃ x10, zaI w7 r9 (v2 ||| ((1 : Int32) <<< (v3 &&& 31))) = some x10 ∧ (zRn X d kc ks MX12_laysLines 193 [some (.ref v0), some (.int v1), some (.int v2), some (.int v3), none] [.int x10, .int x4, .int v2, .ref r3] w7 Q))) else (zRn X d kc ks MX12_laysLines 192 [some (.ref v0), some (.int v1), some (.int v2), some (.int v3), none] [.int x4, .int v2, .ref r3] w7 Q))) else (zRn X d kc ks MX12_laysLines 192 [some (.ref v0), some (.int v1), some (.int v2), some (.int v3), none] [.int x4, .int v2, .ref r3] w5 Q))))))) :
    zRn X d kc ks MX12_laysLines 142 [some (.ref v0), some (.int v1), some (.int v2), some (.int v3), none] [] w Q := by
  refine z_iload_n v3 dX12_laysLines_142 rfl rfl ?_
  refine z_aload_n v0 dX12_laysLines_143 rfl rfl ?_
  refine z_iload_n v1 dX12_laysLines_144 rfl rfl ?_
  refine zq_VI (N := MX12_many) (As := [.int v1]) m_X12_76 dX12_laysLines_145 rfl rfl (Nat.le_of_ble_eq_true rfl) h (fun x2 w1 h => ?_)
  refine z_icmp_ge 201 dX12_laysLines_148 rfl (fun hc => ?_) (fun hc => ?_)
  · rw [if_pos hc] at h
    refine z_iinc (i := 2) v2 (v2 - 1) dX12_laysLines_201 rfl (zdec _) (by decide) rfl ?_
    refine z_goto 117 dX12_laysLines_204 rfl ?_
    exact zRn.weak h (zLe_of [true, true, true, false, true] (And.intro rfl (And.intro rfl (And.intro rfl (And.intro rfl (And.intro rfl (trivial)))))))
  · rw [if_neg hc] at h
    refine z_aload_n v0 dX12_laysLines_151 rfl rfl ?_
    obtain ⟨r3, e, h⟩ := h
    refine zq_fR f_X12_32 dX12_laysLines_152 e ?_
    refine z_iload_n v2 dX12_laysLines_155 rfl rfl ?_
    refine z_dup2 dX12_laysLines_156 rfl rfl ?_
    obtain ⟨x4, e, h⟩ := h
    refine zq_aI dX12_laysLines_157 e ?_
    refine z_iload_n v2 dX12_laysLines_158 rfl rfl ?_
    refine z_iload_n v3 dX12_laysLines_159 rfl rfl ?_
    refine zq_SI (N := MX12_has) (As := [.int v2, .int v3]) m_X12_89 dX12_laysLines_160 rfl rfl (Nat.le_of_ble_eq_true rfl) h (fun x6 w5 h => ?_)
    refine z_if_ne 192 dX12_laysLines_163 rfl (fun hc => ?_) (fun hc => ?_)
    · rw [if_neg hc] at h
      exact h
    · rw [if_pos hc] at h
      refine z_aload_n v0 dX12_laysLines_166 rfl rfl ?_
      refine z_iload_n v1 dX12_laysLines_167 rfl rfl ?_
      refine z_iload_n v3 dX12_laysLines_168 rfl rfl ?_
      refine zq_VI (N := MX12_under) (As := [.int v1, .int v3]) m_X12_86 dX12_laysLines_169 rfl rfl (Nat.le_of_ble_eq_true rfl) h (fun x8 w7 h => ?_)
      refine z_iload_n v2 dX12_laysLines_172 rfl rfl ?_
      refine z_iconst (-1) dX12_laysLines_173 rfl ?_
      refine z_ixor dX12_laysLines_174 ?_
      refine z_iand dX12_laysLines_175 ?_
      refine z_if_ne 192 dX12_laysLines_176 rfl (fun hc => ?_) (fun hc => ?_)
      · rw [if_neg hc] at h
        exact h
      · rw [if_pos hc] at h
        refine z_aload_n v0 dX12_laysLines_179 rfl rfl ?_
        obtain ⟨r9, e, h⟩ := h
        refine zq_fR f_X12_32 dX12_laysLines_180 e ?_
        refine z_iload_n v2 dX12_laysLines_183 rfl rfl ?_
        refine z_iconst 1 dX12_laysLines_184 rfl ?_
        refine z_iload_n v3 dX12_laysLines_185 rfl rfl ?_
        refine z_ishl dX12_laysLines_186 ?_
        refine z_ior dX12_laysLines_187 ?_
        obtain ⟨x10, e, h⟩ := h
        refine zq_aI dX12_laysLines_188 e ?_
        refine z_goto 193 dX12_laysLines_189 rfl ?_
        exact h
set_option maxRecDepth 100000 in
set_option maxHeartbeats 4000000 in
theorem bX12_laysLines_192 {X : zX} {d kc ks : Nat} {w : zW} {Q : Option Value → zW → Prop} (v0 : Nat) (v1 : Int32) (v2 : Int32) (v3 : Int32) (u0 : Int32) (u1 : Int32) (u2 : Nat)
    (h : zRn X d kc ks MX12_laysLines 193 [some (.ref v0), some (.int v1), some (.int v2), some (.int v3), none] [.int 0, .int u0, .int u1, .ref u2] w Q) :
    zRn X d kc ks MX12_laysLines 192 [some (.ref v0), some (.int v1), some (.int v2), some (.int v3), none] [.int u0, .int u1, .ref u2] w Q := by
  refine z_iconst 0 dX12_laysLines_192 rfl ?_
  exact h
set_option maxRecDepth 100000 in
set_option maxHeartbeats 4000000 in
theorem bX12_laysLines_193 {X : zX} {d kc ks : Nat} {w : zW} {Q : Option Value → zW → Prop} (v0 : Nat) (v1 : Int32) (v2 : Int32) (v3 : Int32) (u0 : Int32) (u1 : Int32) (u2 : Int32) (u3 : Nat)
    (h : ∃ w1, zsI w u3 u2 (u1 + u0) = some w1 ∧ (zRn X d kc ks MX12_laysLines 142 [some (.ref v0), some (.int v1), some (.int v2), some (.int (v3 + 1)), none] [] w1 Q)) :
    zRn X d kc ks MX12_laysLines 193 [some (.ref v0), some (.int v1), some (.int v2), some (.int v3), none] [.int u0, .int u1, .int u2, .ref u3] w Q := by
  refine z_iadd dX12_laysLines_193 ?_
  obtain ⟨w1, e, h⟩ := h
  refine zq_sI dX12_laysLines_194 e ?_
  refine z_iinc (i := 3) v3 (v3 + 1) dX12_laysLines_195 rfl rfl (by decide) rfl ?_
  refine z_goto 142 dX12_laysLines_198 rfl ?_
  exact h
theorem eX12_laysLines {X : zX} {d kc ks : Nat} {w : zW} {Q : Option Value → zW → Prop} (p0 : Nat) (a1 : Int32) (h : zRn X d kc ks MX12_laysLines 0 [some (.ref p0), some (.int a1), none, none, none] [] w Q) : zEv X d kc ks MX12_laysLines [.ref p0, .int a1] w Q :=
  zEv.of (by decide) (Nat.le_of_ble_eq_true rfl) (Or.inr (by simp [Value.category])) h
set_option maxRecDepth 100000 in
set_option maxHeartbeats 4000000 in
theorem bX12_line_0 {X : zX} {d kc ks : Nat} {w : zW} {Q : Option Value → zW → Prop} (p0 : Nat) (a1 : Int32) (a2 : Int32) (a3 : Int32)
    (h : zIs w p0 11 ∧ zCallI X d MX12_isOrder [.ref p0, .int a1] w (fun x2 w1 => if x2 = 0 then (Q (some (.int (-2))) w1) else (if a2 < 0 then (Q (some (.int (-2))) w1) else (zIs w1 p0 11 ∧ zCallI X d MX12_many [.ref p0, .int a1] w1 (fun x4 w3 => zCallI X d MX12_in [.long ((a3 : Int32).toInt64), .long 0, .long ((x4 - 1 : Int32).toInt64)] w3 (fun x6 w5 => if x6 = 0 then (Q (some (.int (-2))) w5) else (zIs w5 p0 11 ∧ zCallI X d MX12_laysLine [.ref p0, .int a1, .int a2] w5 (fun x8 w7 => if x8 = 0 then (Q (some (.int (-1))) w7) else (∃ r9, zfR w7 p0 11 17 = some r9 ∧ (∃ x10, zaI w7 r9 a3 = some x10 ∧ (Q (some (.int x10)) w7))))))))))) :
    zRn X d kc ks MX12_line 0 [some (.ref p0), some (.int a1), some (.int a2), some (.int a3)] [] w Q := by
  refine z_aload_n p0 dX12_line_0 rfl rfl ?_
  refine z_iload_n a1 dX12_line_1 rfl rfl ?_
  refine zq_VI (N := MX12_isOrder) (As := [.int a1]) m_X12_80 dX12_line_2 rfl rfl (Nat.le_of_ble_eq_true rfl) h (fun x2 w1 h => ?_)
  refine z_if_eq 29 dX12_line_5 rfl (fun hc => ?_) (fun hc => ?_)
  · rw [if_pos hc] at h
    refine z_bipush (-2) dX12_line_29 rfl ?_
    exact z_ireturn .int dX12_line_31 rfl rfl h
  · rw [if_neg hc] at h
    refine z_iload_n a2 dX12_line_8 rfl rfl ?_
    refine z_if_lt 29 dX12_line_9 rfl (fun hc => ?_) (fun hc => ?_)
    · rw [if_pos hc] at h
      refine z_bipush (-2) dX12_line_29 rfl ?_
      exact z_ireturn .int dX12_line_31 rfl rfl h
    · rw [if_neg hc] at h
      refine z_iload_n a3 dX12_line_12 rfl rfl ?_
      refine z_i2l dX12_line_13 ?_
      refine z_lconst 0 dX12_line_14 rfl ?_
      refine z_aload_n p0 dX12_line_15 rfl rfl ?_
      refine z_iload_n a1 dX12_line_16 rfl rfl ?_
      refine zq_VI (N := MX12_many) (As := [.int a1]) m_X12_76 dX12_line_17 rfl rfl (Nat.le_of_ble_eq_true rfl) h (fun x4 w3 h => ?_)
      refine z_iconst 1 dX12_line_20 rfl ?_
      refine z_isub dX12_line_21 ?_
      refine z_i2l dX12_line_22 ?_
      refine zq_SI (N := MX12_in) (As := [.long ((a3 : Int32).toInt64), .long 0, .long ((x4 - 1 : Int32).toInt64)]) m_X12_64 dX12_line_23 rfl rfl (Nat.le_of_ble_eq_true rfl) h (fun x6 w5 h => ?_)
      refine z_if_ne 32 dX12_line_26 rfl (fun hc => ?_) (fun hc => ?_)
      · rw [if_neg hc] at h
        refine z_aload_n p0 dX12_line_32 rfl rfl ?_
        refine z_iload_n a1 dX12_line_33 rfl rfl ?_
        refine z_iload_n a2 dX12_line_34 rfl rfl ?_
        refine zq_VI (N := MX12_laysLine) (As := [.int a1, .int a2]) m_X12_288 dX12_line_35 rfl rfl (Nat.le_of_ble_eq_true rfl) h (fun x8 w7 h => ?_)
        refine z_if_eq 50 dX12_line_38 rfl (fun hc => ?_) (fun hc => ?_)
        · rw [if_pos hc] at h
          refine z_iconst (-1) dX12_line_50 rfl ?_
          exact z_ireturn .int dX12_line_51 rfl rfl h
        · rw [if_neg hc] at h
          refine z_aload_n p0 dX12_line_41 rfl rfl ?_
          obtain ⟨r9, e, h⟩ := h
          refine zq_fR f_X12_35 dX12_line_42 e ?_
          refine z_iload_n a3 dX12_line_45 rfl rfl ?_
          obtain ⟨x10, e, h⟩ := h
          refine zq_aI dX12_line_46 e ?_
          refine z_goto 51 dX12_line_47 rfl ?_
          exact z_ireturn .int dX12_line_51 rfl rfl h
      · rw [if_pos hc] at h
        refine z_bipush (-2) dX12_line_29 rfl ?_
        exact z_ireturn .int dX12_line_31 rfl rfl h
theorem eX12_line {X : zX} {d kc ks : Nat} {w : zW} {Q : Option Value → zW → Prop} (p0 : Nat) (a1 : Int32) (a2 : Int32) (a3 : Int32) (h : zRn X d kc ks MX12_line 0 [some (.ref p0), some (.int a1), some (.int a2), some (.int a3)] [] w Q) : zEv X d kc ks MX12_line [.ref p0, .int a1, .int a2, .int a3] w Q :=
  zEv.of (by decide) (Nat.le_of_ble_eq_true rfl) (Or.inr (by simp [Value.category])) h
set_option maxRecDepth 100000 in
set_option maxHeartbeats 4000000 in
theorem bX12_laysLine_0 {X : zX} {d kc ks : Nat} {w : zW} {Q : Option Value → zW → Prop} (p0 : Nat) (a1 : Int32) (a2 : Int32)
    (h : zIs w p0 11 ∧ zCallV X d MX12_laysLines [.ref p0, .int a1] w (fun w1 => ∃ r2, zfR w1 p0 11 14 = some r2 ∧ (∃ x3, zfI w1 p0 11 16 = some x3 ∧ (∃ x4, zaI w1 r2 x3 = some x4 ∧ (if a2 < x4 then (zRn X d kc ks MX12_laysLine 28 [some (.ref p0), some (.int a1), none, some (.int a2), some (.int 0), some (.int 0), none, none, none, none] [] w1 Q) else (Q (some (.int 0)) w1)))))) :
    zRn X d kc ks MX12_laysLine 0 [some (.ref p0), some (.int a1), some (.int a2), none, none, none, none, none, none, none] [] w Q := by
  refine z_aload_n p0 dX12_laysLine_0 rfl rfl ?_
  refine z_iload_n a1 dX12_laysLine_1 rfl rfl ?_
  refine zq_VV (N := MX12_laysLines) (As := [.int a1]) m_X12_285 dX12_laysLine_2 rfl rfl (Nat.le_of_ble_eq_true rfl) h (fun w1 h => ?_)
  refine z_iload_n a2 dX12_laysLine_5 rfl rfl ?_
  refine z_aload_n p0 dX12_laysLine_6 rfl rfl ?_
  obtain ⟨r2, e, h⟩ := h
  refine zq_fR f_X12_29 dX12_laysLine_7 e ?_
  refine z_aload_n p0 dX12_laysLine_10 rfl rfl ?_
  obtain ⟨x3, e, h⟩ := h
  refine zq_fI f_X12_282 dX12_laysLine_11 e ?_
  obtain ⟨x4, e, h⟩ := h
  refine zq_aI dX12_laysLine_14 e ?_
  refine z_icmp_lt 20 dX12_laysLine_15 rfl (fun hc => ?_) (fun hc => ?_)
  · rw [if_pos hc] at h
    refine z_iload_n a2 dX12_laysLine_20 rfl rfl ?_
    refine z_istore_n (i := 3) dX12_laysLine_21 rfl (by decide) rfl ?_
    refine z_iconst 0 dX12_laysLine_22 rfl ?_
    refine z_istore (i := 4) dX12_laysLine_23 (by decide) rfl ?_
    refine z_iconst 0 dX12_laysLine_25 rfl ?_
    refine z_istore (i := 5) dX12_laysLine_26 (by decide) rfl ?_
    exact zRn.weak h (zLe_of [true, true, false, true, true, true, true, true, true, true] (And.intro rfl (And.intro rfl (And.intro rfl (And.intro rfl (And.intro rfl (And.intro rfl (And.intro rfl (And.intro rfl (And.intro rfl (And.intro rfl (trivial))))))))))))
  · rw [if_neg hc] at h
    refine z_iconst 0 dX12_laysLine_18 rfl ?_
    exact z_ireturn .boolean dX12_laysLine_19 rfl rfl h
set_option maxRecDepth 100000 in
set_option maxHeartbeats 4000000 in
theorem bX12_laysLine_28 {X : zX} {d kc ks : Nat} {w : zW} {Q : Option Value → zW → Prop} (v0 : Nat) (v1 : Int32) (v3 : Int32) (v4 : Int32) (v5 : Int32)
    (h : zIs w v0 11 ∧ zCallI X d MX12_many [.ref v0, .int v1] w (fun x2 w1 => if x2 ≤ v5 then (Q (some (.int 1)) w1) else (zRn X d kc ks MX12_laysLine 44 [some (.ref v0), some (.int v1), none, some (.int v3), some (.int v4), some (.int v5), some (.int 0), some (.int 0), none, none] [] w1 Q))) :
    zRn X d kc ks MX12_laysLine 28 [some (.ref v0), some (.int v1), none, some (.int v3), some (.int v4), some (.int v5), none, none, none, none] [] w Q := by
  refine z_iload v5 dX12_laysLine_28 rfl ?_
  refine z_aload_n v0 dX12_laysLine_30 rfl rfl ?_
  refine z_iload_n v1 dX12_laysLine_31 rfl rfl ?_
  refine zq_VI (N := MX12_many) (As := [.int v1]) m_X12_76 dX12_laysLine_32 rfl rfl (Nat.le_of_ble_eq_true rfl) h (fun x2 w1 h => ?_)
  refine z_icmp_ge 157 dX12_laysLine_35 rfl (fun hc => ?_) (fun hc => ?_)
  · rw [if_pos hc] at h
    refine z_iconst 1 dX12_laysLine_157 rfl ?_
    exact z_ireturn .boolean dX12_laysLine_158 rfl rfl h
  · rw [if_neg hc] at h
    refine z_iconst 0 dX12_laysLine_38 rfl ?_
    refine z_istore (i := 6) dX12_laysLine_39 (by decide) rfl ?_
    refine z_iconst 0 dX12_laysLine_41 rfl ?_
    refine z_istore (i := 7) dX12_laysLine_42 (by decide) rfl ?_
    exact h
set_option maxRecDepth 100000 in
set_option maxHeartbeats 4000000 in
theorem bX12_laysLine_44 {X : zX} {d kc ks : Nat} {w : zW} {Q : Option Value → zW → Prop} (v0 : Nat) (v1 : Int32) (v3 : Int32) (v4 : Int32) (v5 : Int32) (v6 : Int32) (v7 : Int32)
    (h : if v7 = 0 then (zCallI X d MX12_has [.int v4, .int v6] w (fun x4 w3 => if x4 = 0 then (zIs w3 v0 11 ∧ zCallI X d MX12_under [.ref v0, .int v1, .int v6] w3 (fun x6 w5 => if (x6 &&& (v4 ^^^ (-1))) = 0 then (zRn X d kc ks MX12_laysLine 79 [some (.ref v0), some (.int v1), none, some (.int v3), some (.int v4), some (.int v5), some (.int v6), none, none, none] [.int 1] w5 Q) else (zRn X d kc ks MX12_laysLine 78 [some (.ref v0), some (.int v1), none, some (.int v3), some (.int v4), some (.int v5), some (.int v6), none, none, none] [] w5 Q))) else (zRn X d kc ks MX12_laysLine 78 [some (.ref v0), some (.int v1), none, some (.int v3), some (.int v4), some (.int v5), some (.int v6), none, none, none] [] w3 Q))) else (∃ r1, zfR w v0 11 17 = some r1 ∧ (∃ w2, zsI w r1 v5 v6 = some w2 ∧ (zRn X d kc ks MX12_laysLine 28 [some (.ref v0), some (.int v1), none, some (.int v3), some (.int (v4 ||| ((1 : Int32) <<< (v6 &&& 31)))), some (.int (v5 + 1)), none, none, none, none] [] w2 Q)))) :
    zRn X d kc ks MX12_laysLine 44 [some (.ref v0), some (.int v1), none, some (.int v3), some (.int v4), some (.int v5), some (.int v6), some (.int v7), none, none] [] w Q := by
  refine z_iload v7 dX12_laysLine_44 rfl ?_
  refine z_if_ne 133 dX12_laysLine_46 rfl (fun hc => ?_) (fun hc => ?_)
  · rw [if_neg hc] at h
    refine z_aload_n v0 dX12_laysLine_133 rfl rfl ?_
    obtain ⟨r1, e, h⟩ := h
    refine zq_fR f_X12_35 dX12_laysLine_134 e ?_
    refine z_iload v5 dX12_laysLine_137 rfl ?_
    refine z_iload v6 dX12_laysLine_139 rfl ?_
    obtain ⟨w2, e, h⟩ := h
    refine zq_sI dX12_laysLine_141 e ?_
    refine z_iload v4 dX12_laysLine_142 rfl ?_
    refine z_iconst 1 dX12_laysLine_144 rfl ?_
    refine z_iload v6 dX12_laysLine_145 rfl ?_
    refine z_ishl dX12_laysLine_147 ?_
    refine z_ior dX12_laysLine_148 ?_
    refine z_istore (i := 4) dX12_laysLine_149 (by decide) rfl ?_
    refine z_iinc (i := 5) v5 (v5 + 1) dX12_laysLine_151 rfl rfl (by decide) rfl ?_
    refine z_goto 28 dX12_laysLine_154 rfl ?_
    exact zRn.weak h (zLe_of [true, true, true, true, true, true, false, false, true, true] (And.intro rfl (And.intro rfl (And.intro rfl (And.intro rfl (And.intro rfl (And.intro rfl (And.intro rfl (And.intro rfl (And.intro rfl (And.intro rfl (trivial))))))))))))
  · rw [if_pos hc] at h
    refine z_iload v4 dX12_laysLine_49 rfl ?_
    refine z_iload v6 dX12_laysLine_51 rfl ?_
    refine zq_SI (N := MX12_has) (As := [.int v4, .int v6]) m_X12_89 dX12_laysLine_53 rfl rfl (Nat.le_of_ble_eq_true rfl) h (fun x4 w3 h => ?_)
    refine z_if_ne 78 dX12_laysLine_56 rfl (fun hc => ?_) (fun hc => ?_)
    · rw [if_neg hc] at h
      exact zRn.weak h (zLe_of [true, true, true, true, true, true, true, false, true, true] (And.intro rfl (And.intro rfl (And.intro rfl (And.intro rfl (And.intro rfl (And.intro rfl (And.intro rfl (And.intro rfl (And.intro rfl (And.intro rfl (trivial))))))))))))
    · rw [if_pos hc] at h
      refine z_aload_n v0 dX12_laysLine_59 rfl rfl ?_
      refine z_iload_n v1 dX12_laysLine_60 rfl rfl ?_
      refine z_iload v6 dX12_laysLine_61 rfl ?_
      refine zq_VI (N := MX12_under) (As := [.int v1, .int v6]) m_X12_86 dX12_laysLine_63 rfl rfl (Nat.le_of_ble_eq_true rfl) h (fun x6 w5 h => ?_)
      refine z_iload v4 dX12_laysLine_66 rfl ?_
      refine z_iconst (-1) dX12_laysLine_68 rfl ?_
      refine z_ixor dX12_laysLine_69 ?_
      refine z_iand dX12_laysLine_70 ?_
      refine z_if_ne 78 dX12_laysLine_71 rfl (fun hc => ?_) (fun hc => ?_)
      · rw [if_neg hc] at h
        exact zRn.weak h (zLe_of [true, true, true, true, true, true, true, false, true, true] (And.intro rfl (And.intro rfl (And.intro rfl (And.intro rfl (And.intro rfl (And.intro rfl (And.intro rfl (And.intro rfl (And.intro rfl (And.intro rfl (trivial))))))))))))
      · rw [if_pos hc] at h
        refine z_iconst 1 dX12_laysLine_74 rfl ?_
        refine z_goto 79 dX12_laysLine_75 rfl ?_
        exact zRn.weak h (zLe_of [true, true, true, true, true, true, true, false, true, true] (And.intro rfl (And.intro rfl (And.intro rfl (And.intro rfl (And.intro rfl (And.intro rfl (And.intro rfl (And.intro rfl (And.intro rfl (And.intro rfl (trivial))))))))))))
set_option maxRecDepth 100000 in
set_option maxHeartbeats 4000000 in
theorem bX12_laysLine_78 {X : zX} {d kc ks : Nat} {w : zW} {Q : Option Value → zW → Prop} (v0 : Nat) (v1 : Int32) (v3 : Int32) (v4 : Int32) (v5 : Int32) (v6 : Int32)
    (h : zRn X d kc ks MX12_laysLine 79 [some (.ref v0), some (.int v1), none, some (.int v3), some (.int v4), some (.int v5), some (.int v6), none, none, none] [.int 0] w Q) :
    zRn X d kc ks MX12_laysLine 78 [some (.ref v0), some (.int v1), none, some (.int v3), some (.int v4), some (.int v5), some (.int v6), none, none, none] [] w Q := by
  refine z_iconst 0 dX12_laysLine_78 rfl ?_
  exact h
set_option maxRecDepth 100000 in
set_option maxHeartbeats 4000000 in
theorem bX12_laysLine_79 {X : zX} {d kc ks : Nat} {w : zW} {Q : Option Value → zW → Prop} (v0 : Nat) (v1 : Int32) (v3 : Int32) (v4 : Int32) (v5 : Int32) (v6 : Int32) (u0 : Int32)
    (h : if u0 = 0 then (zRn X d kc ks MX12_laysLine 102 [some (.ref v0), some (.int v1), none, some (.int v3), some (.int v4), some (.int v5), some (.int v6), none, none, none] [.int 0] w Q) else (∃ r1, zfR w v0 11 15 = some r1 ∧ (∃ x2, zaI w r1 (v4 ||| ((1 : Int32) <<< (v6 &&& 31))) = some x2 ∧ (zRn X d kc ks MX12_laysLine 102 [some (.ref v0), some (.int v1), none, some (.int v3), some (.int v4), some (.int v5), some (.int v6), none, none, none] [.int x2] w Q)))) :
    zRn X d kc ks MX12_laysLine 79 [some (.ref v0), some (.int v1), none, some (.int v3), some (.int v4), some (.int v5), some (.int v6), none, none, none] [.int u0] w Q := by
  refine z_istore (i := 8) dX12_laysLine_79 (by decide) rfl ?_
  refine z_iload u0 dX12_laysLine_81 rfl ?_
  refine z_if_eq 101 dX12_laysLine_83 rfl (fun hc => ?_) (fun hc => ?_)
  · rw [if_pos hc] at h
    refine z_iconst 0 dX12_laysLine_101 rfl ?_
    exact zRn.weak h (zLe_of [true, true, true, true, true, true, true, true, false, true] (And.intro rfl (And.intro rfl (And.intro rfl (And.intro rfl (And.intro rfl (And.intro rfl (And.intro rfl (And.intro rfl (And.intro rfl (And.intro rfl (trivial))))))))))))
  · rw [if_neg hc] at h
    refine z_aload_n v0 dX12_laysLine_86 rfl rfl ?_
    obtain ⟨r1, e, h⟩ := h
    refine zq_fR f_X12_32 dX12_laysLine_87 e ?_
    refine z_iload v4 dX12_laysLine_90 rfl ?_
    refine z_iconst 1 dX12_laysLine_92 rfl ?_
    refine z_iload v6 dX12_laysLine_93 rfl ?_
    refine z_ishl dX12_laysLine_95 ?_
    refine z_ior dX12_laysLine_96 ?_
    obtain ⟨x2, e, h⟩ := h
    refine zq_aI dX12_laysLine_97 e ?_
    refine z_goto 102 dX12_laysLine_98 rfl ?_
    exact zRn.weak h (zLe_of [true, true, true, true, true, true, true, true, false, true] (And.intro rfl (And.intro rfl (And.intro rfl (And.intro rfl (And.intro rfl (And.intro rfl (And.intro rfl (And.intro rfl (And.intro rfl (And.intro rfl (trivial))))))))))))
set_option maxRecDepth 100000 in
set_option maxHeartbeats 4000000 in
theorem bX12_laysLine_102 {X : zX} {d kc ks : Nat} {w : zW} {Q : Option Value → zW → Prop} (v0 : Nat) (v1 : Int32) (v3 : Int32) (v4 : Int32) (v5 : Int32) (v6 : Int32) (u0 : Int32)
    (h : if u0 ≤ v3 then (zRn X d kc ks MX12_laysLine 115 [some (.ref v0), some (.int v1), none, some (.int v3), some (.int v4), some (.int v5), some (.int v6), none, none, some (.int u0)] [.int 0] w Q) else (zRn X d kc ks MX12_laysLine 115 [some (.ref v0), some (.int v1), none, some (.int v3), some (.int v4), some (.int v5), some (.int v6), none, none, some (.int u0)] [.int 1] w Q)) :
    zRn X d kc ks MX12_laysLine 102 [some (.ref v0), some (.int v1), none, some (.int v3), some (.int v4), some (.int v5), some (.int v6), none, none, none] [.int u0] w Q := by
  refine z_istore (i := 9) dX12_laysLine_102 (by decide) rfl ?_
  refine z_iload_n v3 dX12_laysLine_104 rfl rfl ?_
  refine z_iload u0 dX12_laysLine_105 rfl ?_
  refine z_icmp_ge 114 dX12_laysLine_107 rfl (fun hc => ?_) (fun hc => ?_)
  · rw [if_pos hc] at h
    refine z_iconst 0 dX12_laysLine_114 rfl ?_
    exact h
  · rw [if_neg hc] at h
    refine z_iconst 1 dX12_laysLine_110 rfl ?_
    refine z_goto 115 dX12_laysLine_111 rfl ?_
    exact h
set_option maxRecDepth 100000 in
set_option maxHeartbeats 4000000 in
theorem bX12_laysLine_115 {X : zX} {d kc ks : Nat} {w : zW} {Q : Option Value → zW → Prop} (v0 : Nat) (v1 : Int32) (v3 : Int32) (v4 : Int32) (v5 : Int32) (v6 : Int32) (v9 : Int32) (u0 : Int32)
    (h : if u0 = 0 then (zRn X d kc ks MX12_laysLine 130 [some (.ref v0), some (.int v1), none, some (.int (v3 - v9)), some (.int v4), some (.int v5), some (.int (v6 + 1)), some (.int u0), none, none] [] w Q) else (zRn X d kc ks MX12_laysLine 130 [some (.ref v0), some (.int v1), none, some (.int v3), some (.int v4), some (.int v5), some (.int v6), some (.int u0), none, none] [] w Q)) :
    zRn X d kc ks MX12_laysLine 115 [some (.ref v0), some (.int v1), none, some (.int v3), some (.int v4), some (.int v5), some (.int v6), none, none, some (.int v9)] [.int u0] w Q := by
  refine z_istore (i := 7) dX12_laysLine_115 (by decide) rfl ?_
  refine z_iload u0 dX12_laysLine_117 rfl ?_
  refine z_if_ne 130 dX12_laysLine_119 rfl (fun hc => ?_) (fun hc => ?_)
  · rw [if_neg hc] at h
    exact zRn.weak h (zLe_of [true, true, true, true, true, true, true, true, true, false] (And.intro rfl (And.intro rfl (And.intro rfl (And.intro rfl (And.intro rfl (And.intro rfl (And.intro rfl (And.intro rfl (And.intro rfl (And.intro rfl (trivial))))))))))))
  · rw [if_pos hc] at h
    refine z_iload_n v3 dX12_laysLine_122 rfl rfl ?_
    refine z_iload v9 dX12_laysLine_123 rfl ?_
    refine z_isub dX12_laysLine_125 ?_
    refine z_istore_n (i := 3) dX12_laysLine_126 rfl (by decide) rfl ?_
    refine z_iinc (i := 6) v6 (v6 + 1) dX12_laysLine_127 rfl rfl (by decide) rfl ?_
    exact zRn.weak h (zLe_of [true, true, true, true, true, true, true, true, true, false] (And.intro rfl (And.intro rfl (And.intro rfl (And.intro rfl (And.intro rfl (And.intro rfl (And.intro rfl (And.intro rfl (And.intro rfl (And.intro rfl (trivial))))))))))))
set_option maxRecDepth 100000 in
set_option maxHeartbeats 4000000 in
theorem bX12_laysLine_130 {X : zX} {d kc ks : Nat} {w : zW} {Q : Option Value → zW → Prop} (v0 : Nat) (v1 : Int32) (v3 : Int32) (v4 : Int32) (v5 : Int32) (v6 : Int32) (v7 : Int32)
    (h : zRn X d kc ks MX12_laysLine 44 [some (.ref v0), some (.int v1), none, some (.int v3), some (.int v4), some (.int v5), some (.int v6), some (.int v7), none, none] [] w Q) :
    zRn X d kc ks MX12_laysLine 130 [some (.ref v0), some (.int v1), none, some (.int v3), some (.int v4), some (.int v5), some (.int v6), some (.int v7), none, none] [] w Q := by
  refine z_goto 44 dX12_laysLine_130 rfl ?_
  exact h
theorem eX12_laysLine {X : zX} {d kc ks : Nat} {w : zW} {Q : Option Value → zW → Prop} (p0 : Nat) (a1 : Int32) (a2 : Int32) (h : zRn X d kc ks MX12_laysLine 0 [some (.ref p0), some (.int a1), some (.int a2), none, none, none, none, none, none, none] [] w Q) : zEv X d kc ks MX12_laysLine [.ref p0, .int a1, .int a2] w Q :=
  zEv.of (by decide) (Nat.le_of_ble_eq_true rfl) (Or.inr (by simp [Value.category])) h
set_option maxRecDepth 100000 in
set_option maxHeartbeats 4000000 in
theorem bX12_rank_0 {X : zX} {d kc ks : Nat} {w : zW} {Q : Option Value → zW → Prop} (p0 : Nat) (a1 : Int32) (a2 : Int32)
    (h : zIs w p0 11 ∧ zCallI X d MX12_isRow [.ref p0, .int a1, .int a2] w (fun x2 w1 => if x2 = 0 then (Q (some (.int (-2))) w1) else (zIs w1 p0 11 ∧ zCallI X d MX12_isLine [.ref p0, .int a1, .int a2] w1 (fun x4 w3 => if x4 = 0 then (Q (some (.int (-1))) w3) else (zIs w3 p0 11 ∧ zCallV X d MX12_laysLines [.ref p0, .int a1] w3 (fun w5 => zRn X d kc ks MX12_rank 36 [some (.ref p0), some (.int a1), some (.int a2), some (.int 0), some (.int 0), some (.int 0), none] [] w5 Q)))))) :
    zRn X d kc ks MX12_rank 0 [some (.ref p0), some (.int a1), some (.int a2), none, none, none, none] [] w Q := by
  refine z_aload_n p0 dX12_rank_0 rfl rfl ?_
  refine z_iload_n a1 dX12_rank_1 rfl rfl ?_
  refine z_iload_n a2 dX12_rank_2 rfl rfl ?_
  refine zq_VI (N := MX12_isRow) (As := [.int a1, .int a2]) m_X12_295 dX12_rank_3 rfl rfl (Nat.le_of_ble_eq_true rfl) h (fun x2 w1 h => ?_)
  refine z_if_ne 12 dX12_rank_6 rfl (fun hc => ?_) (fun hc => ?_)
  · rw [if_neg hc] at h
    refine z_aload_n p0 dX12_rank_12 rfl rfl ?_
    refine z_iload_n a1 dX12_rank_13 rfl rfl ?_
    refine z_iload_n a2 dX12_rank_14 rfl rfl ?_
    refine zq_VI (N := MX12_isLine) (As := [.int a1, .int a2]) m_X12_298 dX12_rank_15 rfl rfl (Nat.le_of_ble_eq_true rfl) h (fun x4 w3 h => ?_)
    refine z_if_ne 23 dX12_rank_18 rfl (fun hc => ?_) (fun hc => ?_)
    · rw [if_neg hc] at h
      refine z_aload_n p0 dX12_rank_23 rfl rfl ?_
      refine z_iload_n a1 dX12_rank_24 rfl rfl ?_
      refine zq_VV (N := MX12_laysLines) (As := [.int a1]) m_X12_285 dX12_rank_25 rfl rfl (Nat.le_of_ble_eq_true rfl) h (fun w5 h => ?_)
      refine z_iconst 0 dX12_rank_28 rfl ?_
      refine z_istore_n (i := 3) dX12_rank_29 rfl (by decide) rfl ?_
      refine z_iconst 0 dX12_rank_30 rfl ?_
      refine z_istore (i := 4) dX12_rank_31 (by decide) rfl ?_
      refine z_iconst 0 dX12_rank_33 rfl ?_
      refine z_istore (i := 5) dX12_rank_34 (by decide) rfl ?_
      exact h
    · rw [if_pos hc] at h
      refine z_iconst (-1) dX12_rank_21 rfl ?_
      exact z_ireturn .int dX12_rank_22 rfl rfl h
  · rw [if_pos hc] at h
    refine z_bipush (-2) dX12_rank_9 rfl ?_
    exact z_ireturn .int dX12_rank_11 rfl rfl h
set_option maxRecDepth 100000 in
set_option maxHeartbeats 4000000 in
theorem bX12_rank_36 {X : zX} {d kc ks : Nat} {w : zW} {Q : Option Value → zW → Prop} (v0 : Nat) (v1 : Int32) (v2 : Int32) (v3 : Int32) (v4 : Int32) (v5 : Int32)
    (h : zIs w v0 11 ∧ zCallI X d MX12_many [.ref v0, .int v1] w (fun x2 w1 => if x2 ≤ v5 then (Q (some (.int v3)) w1) else (zRn X d kc ks MX12_rank 49 [some (.ref v0), some (.int v1), some (.int v2), some (.int v3), some (.int v4), some (.int v5), some (.int 0)] [] w1 Q))) :
    zRn X d kc ks MX12_rank 36 [some (.ref v0), some (.int v1), some (.int v2), some (.int v3), some (.int v4), some (.int v5), none] [] w Q := by
  refine z_iload v5 dX12_rank_36 rfl ?_
  refine z_aload_n v0 dX12_rank_38 rfl rfl ?_
  refine z_iload_n v1 dX12_rank_39 rfl rfl ?_
  refine zq_VI (N := MX12_many) (As := [.int v1]) m_X12_76 dX12_rank_40 rfl rfl (Nat.le_of_ble_eq_true rfl) h (fun x2 w1 h => ?_)
  refine z_icmp_ge 133 dX12_rank_43 rfl (fun hc => ?_) (fun hc => ?_)
  · rw [if_pos hc] at h
    refine z_iload_n v3 dX12_rank_133 rfl rfl ?_
    exact z_ireturn .int dX12_rank_134 rfl rfl h
  · rw [if_neg hc] at h
    refine z_iconst 0 dX12_rank_46 rfl ?_
    refine z_istore (i := 6) dX12_rank_47 (by decide) rfl ?_
    exact h
set_option maxRecDepth 100000 in
set_option maxHeartbeats 4000000 in
theorem bX12_rank_49 {X : zX} {d kc ks : Nat} {w : zW} {Q : Option Value → zW → Prop} (v0 : Nat) (v1 : Int32) (v2 : Int32) (v3 : Int32) (v4 : Int32) (v5 : Int32) (v6 : Int32)
    (h : zIs w v0 11 ∧ zCallI X d MX12_rowAt [.ref v0, .int v1, .int v2, .int v5] w (fun x2 w1 => if x2 ≤ v6 then (zIs w1 v0 11 ∧ zCallI X d MX12_rowAt [.ref v0, .int v1, .int v2, .int v5] w1 (fun x4 w3 => zRn X d kc ks MX12_rank 36 [some (.ref v0), some (.int v1), some (.int v2), some (.int v3), some (.int (v4 ||| ((1 : Int32) <<< (x4 &&& 31)))), some (.int (v5 + 1)), none] [] w3 Q)) else (zCallI X d MX12_has [.int v4, .int v6] w1 (fun x6 w5 => if x6 = 0 then (zIs w5 v0 11 ∧ zCallI X d MX12_under [.ref v0, .int v1, .int v6] w5 (fun x8 w7 => if (x8 &&& (v4 ^^^ (-1))) = 0 then (∃ r9, zfR w7 v0 11 15 = some r9 ∧ (∃ x10, zaI w7 r9 (v4 ||| ((1 : Int32) <<< (v6 &&& 31))) = some x10 ∧ (zRn X d kc ks MX12_rank 104 [some (.ref v0), some (.int v1), some (.int v2), none, some (.int v4), some (.int v5), some (.int v6)] [.int x10, .int v3] w7 Q))) else (zRn X d kc ks MX12_rank 103 [some (.ref v0), some (.int v1), some (.int v2), none, some (.int v4), some (.int v5), some (.int v6)] [.int v3] w7 Q))) else (zRn X d kc ks MX12_rank 103 [some (.ref v0), some (.int v1), some (.int v2), none, some (.int v4), some (.int v5), some (.int v6)] [.int v3] w5 Q))))) :
    zRn X d kc ks MX12_rank 49 [some (.ref v0), some (.int v1), some (.int v2), some (.int v3), some (.int v4), some (.int v5), some (.int v6)] [] w Q := by
  refine z_iload v6 dX12_rank_49 rfl ?_
  refine z_aload_n v0 dX12_rank_51 rfl rfl ?_
  refine z_iload_n v1 dX12_rank_52 rfl rfl ?_
  refine z_iload_n v2 dX12_rank_53 rfl rfl ?_
  refine z_iload v5 dX12_rank_54 rfl ?_
  refine zq_VI (N := MX12_rowAt) (As := [.int v1, .int v2, .int v5]) m_X12_291 dX12_rank_56 rfl rfl (Nat.le_of_ble_eq_true rfl) h (fun x2 w1 h => ?_)
  refine z_icmp_ge 112 dX12_rank_59 rfl (fun hc => ?_) (fun hc => ?_)
  · rw [if_pos hc] at h
    refine z_iload v4 dX12_rank_112 rfl ?_
    refine z_iconst 1 dX12_rank_114 rfl ?_
    refine z_aload_n v0 dX12_rank_115 rfl rfl ?_
    refine z_iload_n v1 dX12_rank_116 rfl rfl ?_
    refine z_iload_n v2 dX12_rank_117 rfl rfl ?_
    refine z_iload v5 dX12_rank_118 rfl ?_
    refine zq_VI (N := MX12_rowAt) (As := [.int v1, .int v2, .int v5]) m_X12_291 dX12_rank_120 rfl rfl (Nat.le_of_ble_eq_true rfl) h (fun x4 w3 h => ?_)
    refine z_ishl dX12_rank_123 ?_
    refine z_ior dX12_rank_124 ?_
    refine z_istore (i := 4) dX12_rank_125 (by decide) rfl ?_
    refine z_iinc (i := 5) v5 (v5 + 1) dX12_rank_127 rfl rfl (by decide) rfl ?_
    refine z_goto 36 dX12_rank_130 rfl ?_
    exact zRn.weak h (zLe_of [true, true, true, true, true, true, false] (And.intro rfl (And.intro rfl (And.intro rfl (And.intro rfl (And.intro rfl (And.intro rfl (And.intro rfl (trivial)))))))))
  · rw [if_neg hc] at h
    refine z_iload_n v3 dX12_rank_62 rfl rfl ?_
    refine z_iload v4 dX12_rank_63 rfl ?_
    refine z_iload v6 dX12_rank_65 rfl ?_
    refine zq_SI (N := MX12_has) (As := [.int v4, .int v6]) m_X12_89 dX12_rank_67 rfl rfl (Nat.le_of_ble_eq_true rfl) h (fun x6 w5 h => ?_)
    refine z_if_ne 103 dX12_rank_70 rfl (fun hc => ?_) (fun hc => ?_)
    · rw [if_neg hc] at h
      exact zRn.weak h (zLe_of [true, true, true, false, true, true, true] (And.intro rfl (And.intro rfl (And.intro rfl (And.intro rfl (And.intro rfl (And.intro rfl (And.intro rfl (trivial)))))))))
    · rw [if_pos hc] at h
      refine z_aload_n v0 dX12_rank_73 rfl rfl ?_
      refine z_iload_n v1 dX12_rank_74 rfl rfl ?_
      refine z_iload v6 dX12_rank_75 rfl ?_
      refine zq_VI (N := MX12_under) (As := [.int v1, .int v6]) m_X12_86 dX12_rank_77 rfl rfl (Nat.le_of_ble_eq_true rfl) h (fun x8 w7 h => ?_)
      refine z_iload v4 dX12_rank_80 rfl ?_
      refine z_iconst (-1) dX12_rank_82 rfl ?_
      refine z_ixor dX12_rank_83 ?_
      refine z_iand dX12_rank_84 ?_
      refine z_if_ne 103 dX12_rank_85 rfl (fun hc => ?_) (fun hc => ?_)
      · rw [if_neg hc] at h
        exact zRn.weak h (zLe_of [true, true, true, false, true, true, true] (And.intro rfl (And.intro rfl (And.intro rfl (And.intro rfl (And.intro rfl (And.intro rfl (And.intro rfl (trivial)))))))))
      · rw [if_pos hc] at h
        refine z_aload_n v0 dX12_rank_88 rfl rfl ?_
        obtain ⟨r9, e, h⟩ := h
        refine zq_fR f_X12_32 dX12_rank_89 e ?_
        refine z_iload v4 dX12_rank_92 rfl ?_
        refine z_iconst 1 dX12_rank_94 rfl ?_
        refine z_iload v6 dX12_rank_95 rfl ?_
        refine z_ishl dX12_rank_97 ?_
        refine z_ior dX12_rank_98 ?_
        obtain ⟨x10, e, h⟩ := h
        refine zq_aI dX12_rank_99 e ?_
        refine z_goto 104 dX12_rank_100 rfl ?_
        exact zRn.weak h (zLe_of [true, true, true, false, true, true, true] (And.intro rfl (And.intro rfl (And.intro rfl (And.intro rfl (And.intro rfl (And.intro rfl (And.intro rfl (trivial)))))))))
set_option maxRecDepth 100000 in
set_option maxHeartbeats 4000000 in
theorem bX12_rank_103 {X : zX} {d kc ks : Nat} {w : zW} {Q : Option Value → zW → Prop} (v0 : Nat) (v1 : Int32) (v2 : Int32) (v4 : Int32) (v5 : Int32) (v6 : Int32) (u0 : Int32)
    (h : zRn X d kc ks MX12_rank 104 [some (.ref v0), some (.int v1), some (.int v2), none, some (.int v4), some (.int v5), some (.int v6)] [.int 0, .int u0] w Q) :
    zRn X d kc ks MX12_rank 103 [some (.ref v0), some (.int v1), some (.int v2), none, some (.int v4), some (.int v5), some (.int v6)] [.int u0] w Q := by
  refine z_iconst 0 dX12_rank_103 rfl ?_
  exact h
set_option maxRecDepth 100000 in
set_option maxHeartbeats 4000000 in
theorem bX12_rank_104 {X : zX} {d kc ks : Nat} {w : zW} {Q : Option Value → zW → Prop} (v0 : Nat) (v1 : Int32) (v2 : Int32) (v4 : Int32) (v5 : Int32) (v6 : Int32) (u0 : Int32) (u1 : Int32)
    (h : zRn X d kc ks MX12_rank 49 [some (.ref v0), some (.int v1), some (.int v2), some (.int (u1 + u0)), some (.int v4), some (.int v5), some (.int (v6 + 1))] [] w Q) :
    zRn X d kc ks MX12_rank 104 [some (.ref v0), some (.int v1), some (.int v2), none, some (.int v4), some (.int v5), some (.int v6)] [.int u0, .int u1] w Q := by
  refine z_iadd dX12_rank_104 ?_
  refine z_istore_n (i := 3) dX12_rank_105 rfl (by decide) rfl ?_
  refine z_iinc (i := 6) v6 (v6 + 1) dX12_rank_106 rfl rfl (by decide) rfl ?_
  refine z_goto 49 dX12_rank_109 rfl ?_
  exact h
theorem eX12_rank {X : zX} {d kc ks : Nat} {w : zW} {Q : Option Value → zW → Prop} (p0 : Nat) (a1 : Int32) (a2 : Int32) (h : zRn X d kc ks MX12_rank 0 [some (.ref p0), some (.int a1), some (.int a2), none, none, none, none] [] w Q) : zEv X d kc ks MX12_rank [.ref p0, .int a1, .int a2] w Q :=
  zEv.of (by decide) (Nat.le_of_ble_eq_true rfl) (Or.inr (by simp [Value.category])) h
set_option maxRecDepth 100000 in
set_option maxHeartbeats 4000000 in
theorem bX12_isRow_0 {X : zX} {d kc ks : Nat} {w : zW} {Q : Option Value → zW → Prop} (p0 : Nat) (a1 : Int32) (a2 : Int32)
    (h : zIs w p0 11 ∧ zCallI X d MX12_isOrder [.ref p0, .int a1] w (fun x2 w1 => if x2 = 0 then (Q (some (.int 0)) w1) else (zIs w1 p0 11 ∧ zCallI X d MX12_rows [.ref p0, .int a1] w1 (fun x4 w3 => zCallI X d MX12_in [.long ((a2 : Int32).toInt64), .long 0, .long ((x4 - 1 : Int32).toInt64)] w3 (fun x6 w5 => if x6 = 0 then (Q (some (.int 0)) w5) else (Q (some (.int 1)) w5)))))) :
    zRn X d kc ks MX12_isRow 0 [some (.ref p0), some (.int a1), some (.int a2)] [] w Q := by
  refine z_aload_n p0 dX12_isRow_0 rfl rfl ?_
  refine z_iload_n a1 dX12_isRow_1 rfl rfl ?_
  refine zq_VI (N := MX12_isOrder) (As := [.int a1]) m_X12_80 dX12_isRow_2 rfl rfl (Nat.le_of_ble_eq_true rfl) h (fun x2 w1 h => ?_)
  refine z_if_eq 29 dX12_isRow_5 rfl (fun hc => ?_) (fun hc => ?_)
  · rw [if_pos hc] at h
    refine z_iconst 0 dX12_isRow_29 rfl ?_
    exact z_ireturn .boolean dX12_isRow_30 rfl rfl h
  · rw [if_neg hc] at h
    refine z_iload_n a2 dX12_isRow_8 rfl rfl ?_
    refine z_i2l dX12_isRow_9 ?_
    refine z_lconst 0 dX12_isRow_10 rfl ?_
    refine z_aload_n p0 dX12_isRow_11 rfl rfl ?_
    refine z_iload_n a1 dX12_isRow_12 rfl rfl ?_
    refine zq_VI (N := MX12_rows) (As := [.int a1]) m_X12_83 dX12_isRow_13 rfl rfl (Nat.le_of_ble_eq_true rfl) h (fun x4 w3 h => ?_)
    refine z_iconst 1 dX12_isRow_16 rfl ?_
    refine z_isub dX12_isRow_17 ?_
    refine z_i2l dX12_isRow_18 ?_
    refine zq_SI (N := MX12_in) (As := [.long ((a2 : Int32).toInt64), .long 0, .long ((x4 - 1 : Int32).toInt64)]) m_X12_64 dX12_isRow_19 rfl rfl (Nat.le_of_ble_eq_true rfl) h (fun x6 w5 h => ?_)
    refine z_if_eq 29 dX12_isRow_22 rfl (fun hc => ?_) (fun hc => ?_)
    · rw [if_pos hc] at h
      refine z_iconst 0 dX12_isRow_29 rfl ?_
      exact z_ireturn .boolean dX12_isRow_30 rfl rfl h
    · rw [if_neg hc] at h
      refine z_iconst 1 dX12_isRow_25 rfl ?_
      refine z_goto 30 dX12_isRow_26 rfl ?_
      exact z_ireturn .boolean dX12_isRow_30 rfl rfl h
theorem eX12_isRow {X : zX} {d kc ks : Nat} {w : zW} {Q : Option Value → zW → Prop} (p0 : Nat) (a1 : Int32) (a2 : Int32) (h : zRn X d kc ks MX12_isRow 0 [some (.ref p0), some (.int a1), some (.int a2)] [] w Q) : zEv X d kc ks MX12_isRow [.ref p0, .int a1, .int a2] w Q :=
  zEv.of (by decide) (Nat.le_of_ble_eq_true rfl) (Or.inr (by simp [Value.category])) h
set_option maxRecDepth 100000 in
set_option maxHeartbeats 4000000 in
theorem bX12_isLine_0 {X : zX} {d kc ks : Nat} {w : zW} {Q : Option Value → zW → Prop} (p0 : Nat) (a1 : Int32) (a2 : Int32)
    (h : zRn X d kc ks MX12_isLine 5 [some (.ref p0), some (.int a1), some (.int a2), some (.int 0), some (.int 0), none] [] w Q) :
    zRn X d kc ks MX12_isLine 0 [some (.ref p0), some (.int a1), some (.int a2), none, none, none] [] w Q := by
  refine z_iconst 0 dX12_isLine_0 rfl ?_
  refine z_istore_n (i := 3) dX12_isLine_1 rfl (by decide) rfl ?_
  refine z_iconst 0 dX12_isLine_2 rfl ?_
  refine z_istore (i := 4) dX12_isLine_3 (by decide) rfl ?_
  exact h
set_option maxRecDepth 100000 in
set_option maxHeartbeats 4000000 in
theorem bX12_isLine_5 {X : zX} {d kc ks : Nat} {w : zW} {Q : Option Value → zW → Prop} (v0 : Nat) (v1 : Int32) (v2 : Int32) (v3 : Int32) (v4 : Int32)
    (h : zIs w v0 11 ∧ zCallI X d MX12_many [.ref v0, .int v1] w (fun x2 w1 => if x2 ≤ v4 then (Q (some (.int 1)) w1) else (zIs w1 v0 11 ∧ zCallI X d MX12_rowAt [.ref v0, .int v1, .int v2, .int v4] w1 (fun x4 w3 => zIs w3 v0 11 ∧ zCallI X d MX12_under [.ref v0, .int v1, .int x4] w3 (fun x6 w5 => if (x6 &&& (v3 ^^^ (-1))) = 0 then (zRn X d kc ks MX12_isLine 5 [some (.ref v0), some (.int v1), some (.int v2), some (.int (v3 ||| ((1 : Int32) <<< (x4 &&& 31)))), some (.int (v4 + 1)), none] [] w5 Q) else (Q (some (.int 0)) w5)))))) :
    zRn X d kc ks MX12_isLine 5 [some (.ref v0), some (.int v1), some (.int v2), some (.int v3), some (.int v4), none] [] w Q := by
  refine z_iload v4 dX12_isLine_5 rfl ?_
  refine z_aload_n v0 dX12_isLine_7 rfl rfl ?_
  refine z_iload_n v1 dX12_isLine_8 rfl rfl ?_
  refine zq_VI (N := MX12_many) (As := [.int v1]) m_X12_76 dX12_isLine_9 rfl rfl (Nat.le_of_ble_eq_true rfl) h (fun x2 w1 h => ?_)
  refine z_icmp_ge 54 dX12_isLine_12 rfl (fun hc => ?_) (fun hc => ?_)
  · rw [if_pos hc] at h
    refine z_iconst 1 dX12_isLine_54 rfl ?_
    exact z_ireturn .boolean dX12_isLine_55 rfl rfl h
  · rw [if_neg hc] at h
    refine z_aload_n v0 dX12_isLine_15 rfl rfl ?_
    refine z_iload_n v1 dX12_isLine_16 rfl rfl ?_
    refine z_iload_n v2 dX12_isLine_17 rfl rfl ?_
    refine z_iload v4 dX12_isLine_18 rfl ?_
    refine zq_VI (N := MX12_rowAt) (As := [.int v1, .int v2, .int v4]) m_X12_291 dX12_isLine_20 rfl rfl (Nat.le_of_ble_eq_true rfl) h (fun x4 w3 h => ?_)
    refine z_istore (i := 5) dX12_isLine_23 (by decide) rfl ?_
    refine z_aload_n v0 dX12_isLine_25 rfl rfl ?_
    refine z_iload_n v1 dX12_isLine_26 rfl rfl ?_
    refine z_iload x4 dX12_isLine_27 rfl ?_
    refine zq_VI (N := MX12_under) (As := [.int v1, .int x4]) m_X12_86 dX12_isLine_29 rfl rfl (Nat.le_of_ble_eq_true rfl) h (fun x6 w5 h => ?_)
    refine z_iload_n v3 dX12_isLine_32 rfl rfl ?_
    refine z_iconst (-1) dX12_isLine_33 rfl ?_
    refine z_ixor dX12_isLine_34 ?_
    refine z_iand dX12_isLine_35 ?_
    refine z_if_eq 41 dX12_isLine_36 rfl (fun hc => ?_) (fun hc => ?_)
    · rw [if_pos hc] at h
      refine z_iload_n v3 dX12_isLine_41 rfl rfl ?_
      refine z_iconst 1 dX12_isLine_42 rfl ?_
      refine z_iload x4 dX12_isLine_43 rfl ?_
      refine z_ishl dX12_isLine_45 ?_
      refine z_ior dX12_isLine_46 ?_
      refine z_istore_n (i := 3) dX12_isLine_47 rfl (by decide) rfl ?_
      refine z_iinc (i := 4) v4 (v4 + 1) dX12_isLine_48 rfl rfl (by decide) rfl ?_
      refine z_goto 5 dX12_isLine_51 rfl ?_
      exact zRn.weak h (zLe_of [true, true, true, true, true, false] (And.intro rfl (And.intro rfl (And.intro rfl (And.intro rfl (And.intro rfl (And.intro rfl (trivial))))))))
    · rw [if_neg hc] at h
      refine z_iconst 0 dX12_isLine_39 rfl ?_
      exact z_ireturn .boolean dX12_isLine_40 rfl rfl h
theorem eX12_isLine {X : zX} {d kc ks : Nat} {w : zW} {Q : Option Value → zW → Prop} (p0 : Nat) (a1 : Int32) (a2 : Int32) (h : zRn X d kc ks MX12_isLine 0 [some (.ref p0), some (.int a1), some (.int a2), none, none, none] [] w Q) : zEv X d kc ks MX12_isLine [.ref p0, .int a1, .int a2] w Q :=
  zEv.of (by decide) (Nat.le_of_ble_eq_true rfl) (Or.inr (by simp [Value.category])) h
set_option maxRecDepth 100000 in
set_option maxHeartbeats 4000000 in
theorem bX12_rowAt_0 {X : zX} {d kc ks : Nat} {w : zW} {Q : Option Value → zW → Prop} (p0 : Nat) (a1 : Int32) (a2 : Int32) (a3 : Int32)
    (h : zIs w p0 11 ∧ zCallI X d MX12_of [.ref p0, .int a1, .int (((10 : Int32) + ((8 : Int32) * a2)) + a3)] w (fun x2 w1 => Q (some (.int x2)) w1)) :
    zRn X d kc ks MX12_rowAt 0 [some (.ref p0), some (.int a1), some (.int a2), some (.int a3)] [] w Q := by
  refine z_aload_n p0 dX12_rowAt_0 rfl rfl ?_
  refine z_iload_n a1 dX12_rowAt_1 rfl rfl ?_
  refine z_bipush 10 dX12_rowAt_2 rfl ?_
  refine z_bipush 8 dX12_rowAt_4 rfl ?_
  refine z_iload_n a2 dX12_rowAt_6 rfl rfl ?_
  refine z_imul dX12_rowAt_7 ?_
  refine z_iadd dX12_rowAt_8 ?_
  refine z_iload_n a3 dX12_rowAt_9 rfl rfl ?_
  refine z_iadd dX12_rowAt_10 ?_
  refine zq_VI (N := MX12_of) (As := [.int a1, .int (((10 : Int32) + ((8 : Int32) * a2)) + a3)]) m_X12_68 dX12_rowAt_11 rfl rfl (Nat.le_of_ble_eq_true rfl) h (fun x2 w1 h => ?_)
  exact z_ireturn .int dX12_rowAt_14 rfl rfl h
theorem eX12_rowAt {X : zX} {d kc ks : Nat} {w : zW} {Q : Option Value → zW → Prop} (p0 : Nat) (a1 : Int32) (a2 : Int32) (a3 : Int32) (h : zRn X d kc ks MX12_rowAt 0 [some (.ref p0), some (.int a1), some (.int a2), some (.int a3)] [] w Q) : zEv X d kc ks MX12_rowAt [.ref p0, .int a1, .int a2, .int a3] w Q :=
  zEv.of (by decide) (Nat.le_of_ble_eq_true rfl) (Or.inr (by simp [Value.category])) h
set_option maxRecDepth 100000 in
set_option maxHeartbeats 4000000 in
theorem bX12_through_0 {X : zX} {d kc ks : Nat} {w : zW} {Q : Option Value → zW → Prop} (p0 : Nat) (a1 : Int32) (a2 : Int32)
    (h : zIs w p0 11 ∧ zCallI X d MX12_isOrder [.ref p0, .int a1] w (fun x2 w1 => if x2 = 0 then (Q (some (.int (-2))) w1) else (zIs w1 p0 11 ∧ zCallI X d MX12_many [.ref p0, .int a1] w1 (fun x4 w3 => zCallI X d MX12_in [.long ((a2 : Int32).toInt64), .long 0, .long ((((1 : Int32) <<< (x4 &&& 31)) - 1 : Int32).toInt64)] w3 (fun x6 w5 => if x6 = 0 then (Q (some (.int (-2))) w5) else (zIs w5 p0 11 ∧ zCallV X d MX12_laysLines [.ref p0, .int a1] w5 (fun w7 => zIs w7 p0 11 ∧ zCallI X d MX12_isIdeal [.ref p0, .int a1, .int a2] w7 (fun x9 w8 => if x9 = 0 then (Q (some (.int 0)) w8) else (∃ r10, zfR w8 p0 11 14 = some r10 ∧ (∃ x11, zaI w8 r10 a2 = some x11 ∧ (∃ r12, zfR w8 p0 11 15 = some r12 ∧ (∃ x13, zaI w8 r12 a2 = some x13 ∧ (Q (some (.int (x11 * x13))) w8))))))))))))) :
    zRn X d kc ks MX12_through 0 [some (.ref p0), some (.int a1), some (.int a2)] [] w Q := by
  refine z_aload_n p0 dX12_through_0 rfl rfl ?_
  refine z_iload_n a1 dX12_through_1 rfl rfl ?_
  refine zq_VI (N := MX12_isOrder) (As := [.int a1]) m_X12_80 dX12_through_2 rfl rfl (Nat.le_of_ble_eq_true rfl) h (fun x2 w1 h => ?_)
  refine z_if_eq 27 dX12_through_5 rfl (fun hc => ?_) (fun hc => ?_)
  · rw [if_pos hc] at h
    refine z_bipush (-2) dX12_through_27 rfl ?_
    exact z_ireturn .int dX12_through_29 rfl rfl h
  · rw [if_neg hc] at h
    refine z_iload_n a2 dX12_through_8 rfl rfl ?_
    refine z_i2l dX12_through_9 ?_
    refine z_lconst 0 dX12_through_10 rfl ?_
    refine z_iconst 1 dX12_through_11 rfl ?_
    refine z_aload_n p0 dX12_through_12 rfl rfl ?_
    refine z_iload_n a1 dX12_through_13 rfl rfl ?_
    refine zq_VI (N := MX12_many) (As := [.int a1]) m_X12_76 dX12_through_14 rfl rfl (Nat.le_of_ble_eq_true rfl) h (fun x4 w3 h => ?_)
    refine z_ishl dX12_through_17 ?_
    refine z_iconst 1 dX12_through_18 rfl ?_
    refine z_isub dX12_through_19 ?_
    refine z_i2l dX12_through_20 ?_
    refine zq_SI (N := MX12_in) (As := [.long ((a2 : Int32).toInt64), .long 0, .long ((((1 : Int32) <<< (x4 &&& 31)) - 1 : Int32).toInt64)]) m_X12_64 dX12_through_21 rfl rfl (Nat.le_of_ble_eq_true rfl) h (fun x6 w5 h => ?_)
    refine z_if_ne 30 dX12_through_24 rfl (fun hc => ?_) (fun hc => ?_)
    · rw [if_neg hc] at h
      refine z_aload_n p0 dX12_through_30 rfl rfl ?_
      refine z_iload_n a1 dX12_through_31 rfl rfl ?_
      refine zq_VV (N := MX12_laysLines) (As := [.int a1]) m_X12_285 dX12_through_32 rfl rfl (Nat.le_of_ble_eq_true rfl) h (fun w7 h => ?_)
      refine z_aload_n p0 dX12_through_35 rfl rfl ?_
      refine z_iload_n a1 dX12_through_36 rfl rfl ?_
      refine z_iload_n a2 dX12_through_37 rfl rfl ?_
      refine zq_VI (N := MX12_isIdeal) (As := [.int a1, .int a2]) m_X12_239 dX12_through_38 rfl rfl (Nat.le_of_ble_eq_true rfl) h (fun x9 w8 h => ?_)
      refine z_if_eq 60 dX12_through_41 rfl (fun hc => ?_) (fun hc => ?_)
      · rw [if_pos hc] at h
        refine z_iconst 0 dX12_through_60 rfl ?_
        exact z_ireturn .int dX12_through_61 rfl rfl h
      · rw [if_neg hc] at h
        refine z_aload_n p0 dX12_through_44 rfl rfl ?_
        obtain ⟨r10, e, h⟩ := h
        refine zq_fR f_X12_29 dX12_through_45 e ?_
        refine z_iload_n a2 dX12_through_48 rfl rfl ?_
        obtain ⟨x11, e, h⟩ := h
        refine zq_aI dX12_through_49 e ?_
        refine z_aload_n p0 dX12_through_50 rfl rfl ?_
        obtain ⟨r12, e, h⟩ := h
        refine zq_fR f_X12_32 dX12_through_51 e ?_
        refine z_iload_n a2 dX12_through_54 rfl rfl ?_
        obtain ⟨x13, e, h⟩ := h
        refine zq_aI dX12_through_55 e ?_
        refine z_imul dX12_through_56 ?_
        refine z_goto 61 dX12_through_57 rfl ?_
        exact z_ireturn .int dX12_through_61 rfl rfl h
    · rw [if_pos hc] at h
      refine z_bipush (-2) dX12_through_27 rfl ?_
      exact z_ireturn .int dX12_through_29 rfl rfl h
theorem eX12_through {X : zX} {d kc ks : Nat} {w : zW} {Q : Option Value → zW → Prop} (p0 : Nat) (a1 : Int32) (a2 : Int32) (h : zRn X d kc ks MX12_through 0 [some (.ref p0), some (.int a1), some (.int a2)] [] w Q) : zEv X d kc ks MX12_through [.ref p0, .int a1, .int a2] w Q :=
  zEv.of (by decide) (Nat.le_of_ble_eq_true rfl) (Or.inr (by simp [Value.category])) h
set_option maxRecDepth 100000 in
set_option maxHeartbeats 4000000 in
theorem bX12_before_0 {X : zX} {d kc ks : Nat} {w : zW} {Q : Option Value → zW → Prop} (p0 : Nat) (a1 : Int32) (a2 : Int32) (a3 : Int32)
    (h : zIs w p0 11 ∧ zCallI X d MX12_isThing [.ref p0, .int a1, .int a2] w (fun x2 w1 => if x2 = 0 then (Q (some (.int (-2))) w1) else (zIs w1 p0 11 ∧ zCallI X d MX12_isThing [.ref p0, .int a1, .int a3] w1 (fun x4 w3 => if x4 = 0 then (Q (some (.int (-2))) w3) else (zIs w3 p0 11 ∧ zCallV X d MX12_laysLines [.ref p0, .int a1] w3 (fun w5 => if a2 = a3 then (Q (some (.int 0)) w5) else (zIs w5 p0 11 ∧ zCallI X d MX12_beforeOf [.ref p0, .int a1, .int a2, .int a3] w5 (fun x7 w6 => Q (some (.int x7)) w6)))))))) :
    zRn X d kc ks MX12_before 0 [some (.ref p0), some (.int a1), some (.int a2), some (.int a3)] [] w Q := by
  refine z_aload_n p0 dX12_before_0 rfl rfl ?_
  refine z_iload_n a1 dX12_before_1 rfl rfl ?_
  refine z_iload_n a2 dX12_before_2 rfl rfl ?_
  refine zq_VI (N := MX12_isThing) (As := [.int a1, .int a2]) m_X12_215 dX12_before_3 rfl rfl (Nat.le_of_ble_eq_true rfl) h (fun x2 w1 h => ?_)
  refine z_if_eq 18 dX12_before_6 rfl (fun hc => ?_) (fun hc => ?_)
  · rw [if_pos hc] at h
    refine z_bipush (-2) dX12_before_18 rfl ?_
    exact z_ireturn .int dX12_before_20 rfl rfl h
  · rw [if_neg hc] at h
    refine z_aload_n p0 dX12_before_9 rfl rfl ?_
    refine z_iload_n a1 dX12_before_10 rfl rfl ?_
    refine z_iload_n a3 dX12_before_11 rfl rfl ?_
    refine zq_VI (N := MX12_isThing) (As := [.int a1, .int a3]) m_X12_215 dX12_before_12 rfl rfl (Nat.le_of_ble_eq_true rfl) h (fun x4 w3 h => ?_)
    refine z_if_ne 21 dX12_before_15 rfl (fun hc => ?_) (fun hc => ?_)
    · rw [if_neg hc] at h
      refine z_aload_n p0 dX12_before_21 rfl rfl ?_
      refine z_iload_n a1 dX12_before_22 rfl rfl ?_
      refine zq_VV (N := MX12_laysLines) (As := [.int a1]) m_X12_285 dX12_before_23 rfl rfl (Nat.le_of_ble_eq_true rfl) h (fun w5 h => ?_)
      refine z_iload_n a2 dX12_before_26 rfl rfl ?_
      refine z_iload_n a3 dX12_before_27 rfl rfl ?_
      refine z_icmp_ne 35 dX12_before_28 rfl (fun hc => ?_) (fun hc => ?_)
      · rw [if_neg hc] at h
        refine z_aload_n p0 dX12_before_35 rfl rfl ?_
        refine z_iload_n a1 dX12_before_36 rfl rfl ?_
        refine z_iload_n a2 dX12_before_37 rfl rfl ?_
        refine z_iload_n a3 dX12_before_38 rfl rfl ?_
        refine zq_VI (N := MX12_beforeOf) (As := [.int a1, .int a2, .int a3]) m_X12_301 dX12_before_39 rfl rfl (Nat.le_of_ble_eq_true rfl) h (fun x7 w6 h => ?_)
        exact z_ireturn .int dX12_before_42 rfl rfl h
      · rw [if_pos hc] at h
        refine z_iconst 0 dX12_before_31 rfl ?_
        refine z_goto 42 dX12_before_32 rfl ?_
        exact z_ireturn .int dX12_before_42 rfl rfl h
    · rw [if_pos hc] at h
      refine z_bipush (-2) dX12_before_18 rfl ?_
      exact z_ireturn .int dX12_before_20 rfl rfl h
theorem eX12_before {X : zX} {d kc ks : Nat} {w : zW} {Q : Option Value → zW → Prop} (p0 : Nat) (a1 : Int32) (a2 : Int32) (a3 : Int32) (h : zRn X d kc ks MX12_before 0 [some (.ref p0), some (.int a1), some (.int a2), some (.int a3)] [] w Q) : zEv X d kc ks MX12_before [.ref p0, .int a1, .int a2, .int a3] w Q :=
  zEv.of (by decide) (Nat.le_of_ble_eq_true rfl) (Or.inr (by simp [Value.category])) h
set_option maxRecDepth 100000 in
set_option maxHeartbeats 4000000 in
theorem bX12_beforeOf_0 {X : zX} {d kc ks : Nat} {w : zW} {Q : Option Value → zW → Prop} (p0 : Nat) (a1 : Int32) (a2 : Int32) (a3 : Int32)
    (h : zRn X d kc ks MX12_beforeOf 6 [some (.ref p0), some (.int a1), some (.int a2), some (.int a3), some (.int 0), some (.int 0), none] [] w Q) :
    zRn X d kc ks MX12_beforeOf 0 [some (.ref p0), some (.int a1), some (.int a2), some (.int a3), none, none, none] [] w Q := by
  refine z_iconst 0 dX12_beforeOf_0 rfl ?_
  refine z_istore (i := 4) dX12_beforeOf_1 (by decide) rfl ?_
  refine z_iconst 0 dX12_beforeOf_3 rfl ?_
  refine z_istore (i := 5) dX12_beforeOf_4 (by decide) rfl ?_
  exact h
set_option maxRecDepth 100000 in
set_option maxHeartbeats 4000000 in
theorem bX12_beforeOf_6 {X : zX} {d kc ks : Nat} {w : zW} {Q : Option Value → zW → Prop} (v0 : Nat) (v1 : Int32) (v2 : Int32) (v3 : Int32) (v4 : Int32) (v5 : Int32)
    (h : ∃ x1, zfI w v0 11 16 = some x1 ∧ (if x1 < v5 then (Q (some (.int v4)) w) else (zCallI X d MX12_has [.int v5, .int v2] w (fun x3 w2 => if x3 = 0 then (zRn X d kc ks MX12_beforeOf 61 [some (.ref v0), some (.int v1), some (.int v2), some (.int v3), some (.int v4), some (.int v5), none] [] w2 Q) else (zCallI X d MX12_has [.int v5, .int v3] w2 (fun x5 w4 => if x5 = 0 then (zIs w4 v0 11 ∧ zCallI X d MX12_under [.ref v0, .int v1, .int v3] w4 (fun x7 w6 => if (x7 &&& (v5 ^^^ (-1))) = 0 then (zIs w6 v0 11 ∧ zCallI X d MX12_isIdeal [.ref v0, .int v1, .int v5] w6 (fun x9 w8 => if x9 = 0 then (zRn X d kc ks MX12_beforeOf 61 [some (.ref v0), some (.int v1), some (.int v2), some (.int v3), some (.int v4), some (.int v5), none] [] w8 Q) else (zRn X d kc ks MX12_beforeOf 62 [some (.ref v0), some (.int v1), some (.int v2), some (.int v3), some (.int v4), some (.int v5), none] [.int 1] w8 Q))) else (zRn X d kc ks MX12_beforeOf 61 [some (.ref v0), some (.int v1), some (.int v2), some (.int v3), some (.int v4), some (.int v5), none] [] w6 Q))) else (zRn X d kc ks MX12_beforeOf 61 [some (.ref v0), some (.int v1), some (.int v2), some (.int v3), some (.int v4), some (.int v5), none] [] w4 Q))))))) :
    zRn X d kc ks MX12_beforeOf 6 [some (.ref v0), some (.int v1), some (.int v2), some (.int v3), some (.int v4), some (.int v5), none] [] w Q := by
  refine z_iload v5 dX12_beforeOf_6 rfl ?_
  refine z_aload_n v0 dX12_beforeOf_8 rfl rfl ?_
  obtain ⟨x1, e, h⟩ := h
  refine zq_fI f_X12_282 dX12_beforeOf_9 e ?_
  refine z_icmp_gt 103 dX12_beforeOf_12 rfl (fun hc => ?_) (fun hc => ?_)
  · rw [if_pos hc] at h
    refine z_iload v4 dX12_beforeOf_103 rfl ?_
    exact z_ireturn .int dX12_beforeOf_105 rfl rfl h
  · rw [if_neg hc] at h
    refine z_iload v5 dX12_beforeOf_15 rfl ?_
    refine z_iload_n v2 dX12_beforeOf_17 rfl rfl ?_
    refine zq_SI (N := MX12_has) (As := [.int v5, .int v2]) m_X12_89 dX12_beforeOf_18 rfl rfl (Nat.le_of_ble_eq_true rfl) h (fun x3 w2 h => ?_)
    refine z_if_eq 61 dX12_beforeOf_21 rfl (fun hc => ?_) (fun hc => ?_)
    · rw [if_pos hc] at h
      exact h
    · rw [if_neg hc] at h
      refine z_iload v5 dX12_beforeOf_24 rfl ?_
      refine z_iload_n v3 dX12_beforeOf_26 rfl rfl ?_
      refine zq_SI (N := MX12_has) (As := [.int v5, .int v3]) m_X12_89 dX12_beforeOf_27 rfl rfl (Nat.le_of_ble_eq_true rfl) h (fun x5 w4 h => ?_)
      refine z_if_ne 61 dX12_beforeOf_30 rfl (fun hc => ?_) (fun hc => ?_)
      · rw [if_neg hc] at h
        exact h
      · rw [if_pos hc] at h
        refine z_aload_n v0 dX12_beforeOf_33 rfl rfl ?_
        refine z_iload_n v1 dX12_beforeOf_34 rfl rfl ?_
        refine z_iload_n v3 dX12_beforeOf_35 rfl rfl ?_
        refine zq_VI (N := MX12_under) (As := [.int v1, .int v3]) m_X12_86 dX12_beforeOf_36 rfl rfl (Nat.le_of_ble_eq_true rfl) h (fun x7 w6 h => ?_)
        refine z_iload v5 dX12_beforeOf_39 rfl ?_
        refine z_iconst (-1) dX12_beforeOf_41 rfl ?_
        refine z_ixor dX12_beforeOf_42 ?_
        refine z_iand dX12_beforeOf_43 ?_
        refine z_if_ne 61 dX12_beforeOf_44 rfl (fun hc => ?_) (fun hc => ?_)
        · rw [if_neg hc] at h
          exact h
        · rw [if_pos hc] at h
          refine z_aload_n v0 dX12_beforeOf_47 rfl rfl ?_
          refine z_iload_n v1 dX12_beforeOf_48 rfl rfl ?_
          refine z_iload v5 dX12_beforeOf_49 rfl ?_
          refine zq_VI (N := MX12_isIdeal) (As := [.int v1, .int v5]) m_X12_239 dX12_beforeOf_51 rfl rfl (Nat.le_of_ble_eq_true rfl) h (fun x9 w8 h => ?_)
          refine z_if_eq 61 dX12_beforeOf_54 rfl (fun hc => ?_) (fun hc => ?_)
          · rw [if_pos hc] at h
            exact h
          · rw [if_neg hc] at h
            refine z_iconst 1 dX12_beforeOf_57 rfl ?_
            refine z_goto 62 dX12_beforeOf_58 rfl ?_
            exact h
set_option maxRecDepth 100000 in
set_option maxHeartbeats 4000000 in
theorem bX12_beforeOf_61 {X : zX} {d kc ks : Nat} {w : zW} {Q : Option Value → zW → Prop} (v0 : Nat) (v1 : Int32) (v2 : Int32) (v3 : Int32) (v4 : Int32) (v5 : Int32)
    (h : zRn X d kc ks MX12_beforeOf 62 [some (.ref v0), some (.int v1), some (.int v2), some (.int v3), some (.int v4), some (.int v5), none] [.int 0] w Q) :
    zRn X d kc ks MX12_beforeOf 61 [some (.ref v0), some (.int v1), some (.int v2), some (.int v3), some (.int v4), some (.int v5), none] [] w Q := by
  refine z_iconst 0 dX12_beforeOf_61 rfl ?_
  exact h
set_option maxRecDepth 100000 in
set_option maxHeartbeats 4000000 in
theorem bX12_beforeOf_62 {X : zX} {d kc ks : Nat} {w : zW} {Q : Option Value → zW → Prop} (v0 : Nat) (v1 : Int32) (v2 : Int32) (v3 : Int32) (v4 : Int32) (v5 : Int32) (u0 : Int32)
    (h : if u0 = 0 then (zRn X d kc ks MX12_beforeOf 94 [some (.ref v0), some (.int v1), some (.int v2), some (.int v3), none, some (.int v5), none] [.int 0, .int v4] w Q) else (∃ r1, zfR w v0 11 14 = some r1 ∧ (∃ x2, zaI w r1 v5 = some x2 ∧ (∃ r3, zfR w v0 11 15 = some r3 ∧ (∃ x4, zaI w r3 (v5 ||| ((1 : Int32) <<< (v3 &&& 31))) = some x4 ∧ (zRn X d kc ks MX12_beforeOf 94 [some (.ref v0), some (.int v1), some (.int v2), some (.int v3), none, some (.int v5), none] [.int (x2 * x4), .int v4] w Q)))))) :
    zRn X d kc ks MX12_beforeOf 62 [some (.ref v0), some (.int v1), some (.int v2), some (.int v3), some (.int v4), some (.int v5), none] [.int u0] w Q := by
  refine z_istore (i := 6) dX12_beforeOf_62 (by decide) rfl ?_
  refine z_iload v4 dX12_beforeOf_64 rfl ?_
  refine z_iload u0 dX12_beforeOf_66 rfl ?_
  refine z_if_eq 93 dX12_beforeOf_68 rfl (fun hc => ?_) (fun hc => ?_)
  · rw [if_pos hc] at h
    refine z_iconst 0 dX12_beforeOf_93 rfl ?_
    exact zRn.weak h (zLe_of [true, true, true, true, false, true, false] (And.intro rfl (And.intro rfl (And.intro rfl (And.intro rfl (And.intro rfl (And.intro rfl (And.intro rfl (trivial)))))))))
  · rw [if_neg hc] at h
    refine z_aload_n v0 dX12_beforeOf_71 rfl rfl ?_
    obtain ⟨r1, e, h⟩ := h
    refine zq_fR f_X12_29 dX12_beforeOf_72 e ?_
    refine z_iload v5 dX12_beforeOf_75 rfl ?_
    obtain ⟨x2, e, h⟩ := h
    refine zq_aI dX12_beforeOf_77 e ?_
    refine z_aload_n v0 dX12_beforeOf_78 rfl rfl ?_
    obtain ⟨r3, e, h⟩ := h
    refine zq_fR f_X12_32 dX12_beforeOf_79 e ?_
    refine z_iload v5 dX12_beforeOf_82 rfl ?_
    refine z_iconst 1 dX12_beforeOf_84 rfl ?_
    refine z_iload_n v3 dX12_beforeOf_85 rfl rfl ?_
    refine z_ishl dX12_beforeOf_86 ?_
    refine z_ior dX12_beforeOf_87 ?_
    obtain ⟨x4, e, h⟩ := h
    refine zq_aI dX12_beforeOf_88 e ?_
    refine z_imul dX12_beforeOf_89 ?_
    refine z_goto 94 dX12_beforeOf_90 rfl ?_
    exact zRn.weak h (zLe_of [true, true, true, true, false, true, false] (And.intro rfl (And.intro rfl (And.intro rfl (And.intro rfl (And.intro rfl (And.intro rfl (And.intro rfl (trivial)))))))))
set_option maxRecDepth 100000 in
set_option maxHeartbeats 4000000 in
theorem bX12_beforeOf_94 {X : zX} {d kc ks : Nat} {w : zW} {Q : Option Value → zW → Prop} (v0 : Nat) (v1 : Int32) (v2 : Int32) (v3 : Int32) (v5 : Int32) (u0 : Int32) (u1 : Int32)
    (h : zRn X d kc ks MX12_beforeOf 6 [some (.ref v0), some (.int v1), some (.int v2), some (.int v3), some (.int (u1 + u0)), some (.int (v5 + 1)), none] [] w Q) :
    zRn X d kc ks MX12_beforeOf 94 [some (.ref v0), some (.int v1), some (.int v2), some (.int v3), none, some (.int v5), none] [.int u0, .int u1] w Q := by
  refine z_iadd dX12_beforeOf_94 ?_
  refine z_istore (i := 4) dX12_beforeOf_95 (by decide) rfl ?_
  refine z_iinc (i := 5) v5 (v5 + 1) dX12_beforeOf_97 rfl rfl (by decide) rfl ?_
  refine z_goto 6 dX12_beforeOf_100 rfl ?_
  exact h
theorem eX12_beforeOf {X : zX} {d kc ks : Nat} {w : zW} {Q : Option Value → zW → Prop} (p0 : Nat) (a1 : Int32) (a2 : Int32) (a3 : Int32) (h : zRn X d kc ks MX12_beforeOf 0 [some (.ref p0), some (.int a1), some (.int a2), some (.int a3), none, none, none] [] w Q) : zEv X d kc ks MX12_beforeOf [.ref p0, .int a1, .int a2, .int a3] w Q :=
  zEv.of (by decide) (Nat.le_of_ble_eq_true rfl) (Or.inr (by simp [Value.category])) h
set_option maxRecDepth 100000 in
set_option maxHeartbeats 4000000 in
theorem bX12_at_0 {X : zX} {d kc ks : Nat} {w : zW} {Q : Option Value → zW → Prop} (p0 : Nat) (a1 : Int32) (a2 : Int32) (a3 : Int32)
    (h : zIs w p0 11 ∧ zCallI X d MX12_isThing [.ref p0, .int a1, .int a2] w (fun x2 w1 => if x2 = 0 then (Q (some (.int (-2))) w1) else (zIs w1 p0 11 ∧ zCallI X d MX12_many [.ref p0, .int a1] w1 (fun x4 w3 => zCallI X d MX12_in [.long ((a3 : Int32).toInt64), .long 0, .long ((x4 - 1 : Int32).toInt64)] w3 (fun x6 w5 => if x6 = 0 then (Q (some (.int (-2))) w5) else (zIs w5 p0 11 ∧ zCallV X d MX12_laysLines [.ref p0, .int a1] w5 (fun w7 => zIs w7 p0 11 ∧ zCallI X d MX12_atOf [.ref p0, .int a1, .int a2, .int a3] w7 (fun x9 w8 => Q (some (.int x9)) w8)))))))) :
    zRn X d kc ks MX12_at 0 [some (.ref p0), some (.int a1), some (.int a2), some (.int a3)] [] w Q := by
  refine z_aload_n p0 dX12_at_0 rfl rfl ?_
  refine z_iload_n a1 dX12_at_1 rfl rfl ?_
  refine z_iload_n a2 dX12_at_2 rfl rfl ?_
  refine zq_VI (N := MX12_isThing) (As := [.int a1, .int a2]) m_X12_215 dX12_at_3 rfl rfl (Nat.le_of_ble_eq_true rfl) h (fun x2 w1 h => ?_)
  refine z_if_eq 26 dX12_at_6 rfl (fun hc => ?_) (fun hc => ?_)
  · rw [if_pos hc] at h
    refine z_bipush (-2) dX12_at_26 rfl ?_
    exact z_ireturn .int dX12_at_28 rfl rfl h
  · rw [if_neg hc] at h
    refine z_iload_n a3 dX12_at_9 rfl rfl ?_
    refine z_i2l dX12_at_10 ?_
    refine z_lconst 0 dX12_at_11 rfl ?_
    refine z_aload_n p0 dX12_at_12 rfl rfl ?_
    refine z_iload_n a1 dX12_at_13 rfl rfl ?_
    refine zq_VI (N := MX12_many) (As := [.int a1]) m_X12_76 dX12_at_14 rfl rfl (Nat.le_of_ble_eq_true rfl) h (fun x4 w3 h => ?_)
    refine z_iconst 1 dX12_at_17 rfl ?_
    refine z_isub dX12_at_18 ?_
    refine z_i2l dX12_at_19 ?_
    refine zq_SI (N := MX12_in) (As := [.long ((a3 : Int32).toInt64), .long 0, .long ((x4 - 1 : Int32).toInt64)]) m_X12_64 dX12_at_20 rfl rfl (Nat.le_of_ble_eq_true rfl) h (fun x6 w5 h => ?_)
    refine z_if_ne 29 dX12_at_23 rfl (fun hc => ?_) (fun hc => ?_)
    · rw [if_neg hc] at h
      refine z_aload_n p0 dX12_at_29 rfl rfl ?_
      refine z_iload_n a1 dX12_at_30 rfl rfl ?_
      refine zq_VV (N := MX12_laysLines) (As := [.int a1]) m_X12_285 dX12_at_31 rfl rfl (Nat.le_of_ble_eq_true rfl) h (fun w7 h => ?_)
      refine z_aload_n p0 dX12_at_34 rfl rfl ?_
      refine z_iload_n a1 dX12_at_35 rfl rfl ?_
      refine z_iload_n a2 dX12_at_36 rfl rfl ?_
      refine z_iload_n a3 dX12_at_37 rfl rfl ?_
      refine zq_VI (N := MX12_atOf) (As := [.int a1, .int a2, .int a3]) m_X12_304 dX12_at_38 rfl rfl (Nat.le_of_ble_eq_true rfl) h (fun x9 w8 h => ?_)
      exact z_ireturn .int dX12_at_41 rfl rfl h
    · rw [if_pos hc] at h
      refine z_bipush (-2) dX12_at_26 rfl ?_
      exact z_ireturn .int dX12_at_28 rfl rfl h
theorem eX12_at {X : zX} {d kc ks : Nat} {w : zW} {Q : Option Value → zW → Prop} (p0 : Nat) (a1 : Int32) (a2 : Int32) (a3 : Int32) (h : zRn X d kc ks MX12_at 0 [some (.ref p0), some (.int a1), some (.int a2), some (.int a3)] [] w Q) : zEv X d kc ks MX12_at [.ref p0, .int a1, .int a2, .int a3] w Q :=
  zEv.of (by decide) (Nat.le_of_ble_eq_true rfl) (Or.inr (by simp [Value.category])) h
set_option maxRecDepth 100000 in
set_option maxHeartbeats 4000000 in
theorem bX12_atOf_0 {X : zX} {d kc ks : Nat} {w : zW} {Q : Option Value → zW → Prop} (p0 : Nat) (a1 : Int32) (a2 : Int32) (a3 : Int32)
    (h : zRn X d kc ks MX12_atOf 6 [some (.ref p0), some (.int a1), some (.int a2), some (.int a3), some (.int 0), some (.int 0), none] [] w Q) :
    zRn X d kc ks MX12_atOf 0 [some (.ref p0), some (.int a1), some (.int a2), some (.int a3), none, none, none] [] w Q := by
  refine z_iconst 0 dX12_atOf_0 rfl ?_
  refine z_istore (i := 4) dX12_atOf_1 (by decide) rfl ?_
  refine z_iconst 0 dX12_atOf_3 rfl ?_
  refine z_istore (i := 5) dX12_atOf_4 (by decide) rfl ?_
  exact h
set_option maxRecDepth 100000 in
set_option maxHeartbeats 4000000 in
theorem bX12_atOf_6 {X : zX} {d kc ks : Nat} {w : zW} {Q : Option Value → zW → Prop} (v0 : Nat) (v1 : Int32) (v2 : Int32) (v3 : Int32) (v4 : Int32) (v5 : Int32)
    (h : ∃ x1, zfI w v0 11 16 = some x1 ∧ (if x1 < v5 then (Q (some (.int v4)) w) else (zCallI X d MX12_ones [.int v5] w (fun x3 w2 => if x3 = v3 then (zCallI X d MX12_has [.int v5, .int v2] w2 (fun x5 w4 => if x5 = 0 then (zIs w4 v0 11 ∧ zCallI X d MX12_under [.ref v0, .int v1, .int v2] w4 (fun x7 w6 => if (x7 &&& (v5 ^^^ (-1))) = 0 then (zIs w6 v0 11 ∧ zCallI X d MX12_isIdeal [.ref v0, .int v1, .int v5] w6 (fun x9 w8 => if x9 = 0 then (zRn X d kc ks MX12_atOf 61 [some (.ref v0), some (.int v1), some (.int v2), some (.int v3), some (.int v4), some (.int v5), none] [] w8 Q) else (zRn X d kc ks MX12_atOf 62 [some (.ref v0), some (.int v1), some (.int v2), some (.int v3), some (.int v4), some (.int v5), none] [.int 1] w8 Q))) else (zRn X d kc ks MX12_atOf 61 [some (.ref v0), some (.int v1), some (.int v2), some (.int v3), some (.int v4), some (.int v5), none] [] w6 Q))) else (zRn X d kc ks MX12_atOf 61 [some (.ref v0), some (.int v1), some (.int v2), some (.int v3), some (.int v4), some (.int v5), none] [] w4 Q))) else (zRn X d kc ks MX12_atOf 61 [some (.ref v0), some (.int v1), some (.int v2), some (.int v3), some (.int v4), some (.int v5), none] [] w2 Q))))) :
    zRn X d kc ks MX12_atOf 6 [some (.ref v0), some (.int v1), some (.int v2), some (.int v3), some (.int v4), some (.int v5), none] [] w Q := by
  refine z_iload v5 dX12_atOf_6 rfl ?_
  refine z_aload_n v0 dX12_atOf_8 rfl rfl ?_
  obtain ⟨x1, e, h⟩ := h
  refine zq_fI f_X12_282 dX12_atOf_9 e ?_
  refine z_icmp_gt 103 dX12_atOf_12 rfl (fun hc => ?_) (fun hc => ?_)
  · rw [if_pos hc] at h
    refine z_iload v4 dX12_atOf_103 rfl ?_
    exact z_ireturn .int dX12_atOf_105 rfl rfl h
  · rw [if_neg hc] at h
    refine z_iload v5 dX12_atOf_15 rfl ?_
    refine zq_SI (N := MX12_ones) (As := [.int v5]) m_X12_100 dX12_atOf_17 rfl rfl (Nat.le_of_ble_eq_true rfl) h (fun x3 w2 h => ?_)
    refine z_iload_n v3 dX12_atOf_20 rfl rfl ?_
    refine z_icmp_ne 61 dX12_atOf_21 rfl (fun hc => ?_) (fun hc => ?_)
    · rw [if_neg hc] at h
      exact h
    · rw [if_pos hc] at h
      refine z_iload v5 dX12_atOf_24 rfl ?_
      refine z_iload_n v2 dX12_atOf_26 rfl rfl ?_
      refine zq_SI (N := MX12_has) (As := [.int v5, .int v2]) m_X12_89 dX12_atOf_27 rfl rfl (Nat.le_of_ble_eq_true rfl) h (fun x5 w4 h => ?_)
      refine z_if_ne 61 dX12_atOf_30 rfl (fun hc => ?_) (fun hc => ?_)
      · rw [if_neg hc] at h
        exact h
      · rw [if_pos hc] at h
        refine z_aload_n v0 dX12_atOf_33 rfl rfl ?_
        refine z_iload_n v1 dX12_atOf_34 rfl rfl ?_
        refine z_iload_n v2 dX12_atOf_35 rfl rfl ?_
        refine zq_VI (N := MX12_under) (As := [.int v1, .int v2]) m_X12_86 dX12_atOf_36 rfl rfl (Nat.le_of_ble_eq_true rfl) h (fun x7 w6 h => ?_)
        refine z_iload v5 dX12_atOf_39 rfl ?_
        refine z_iconst (-1) dX12_atOf_41 rfl ?_
        refine z_ixor dX12_atOf_42 ?_
        refine z_iand dX12_atOf_43 ?_
        refine z_if_ne 61 dX12_atOf_44 rfl (fun hc => ?_) (fun hc => ?_)
        · rw [if_neg hc] at h
          exact h
        · rw [if_pos hc] at h
          refine z_aload_n v0 dX12_atOf_47 rfl rfl ?_
          refine z_iload_n v1 dX12_atOf_48 rfl rfl ?_
          refine z_iload v5 dX12_atOf_49 rfl ?_
          refine zq_VI (N := MX12_isIdeal) (As := [.int v1, .int v5]) m_X12_239 dX12_atOf_51 rfl rfl (Nat.le_of_ble_eq_true rfl) h (fun x9 w8 h => ?_)
          refine z_if_eq 61 dX12_atOf_54 rfl (fun hc => ?_) (fun hc => ?_)
          · rw [if_pos hc] at h
            exact h
          · rw [if_neg hc] at h
            refine z_iconst 1 dX12_atOf_57 rfl ?_
            refine z_goto 62 dX12_atOf_58 rfl ?_
            exact h
set_option maxRecDepth 100000 in
set_option maxHeartbeats 4000000 in
theorem bX12_atOf_61 {X : zX} {d kc ks : Nat} {w : zW} {Q : Option Value → zW → Prop} (v0 : Nat) (v1 : Int32) (v2 : Int32) (v3 : Int32) (v4 : Int32) (v5 : Int32)
    (h : zRn X d kc ks MX12_atOf 62 [some (.ref v0), some (.int v1), some (.int v2), some (.int v3), some (.int v4), some (.int v5), none] [.int 0] w Q) :
    zRn X d kc ks MX12_atOf 61 [some (.ref v0), some (.int v1), some (.int v2), some (.int v3), some (.int v4), some (.int v5), none] [] w Q := by
  refine z_iconst 0 dX12_atOf_61 rfl ?_
  exact h
set_option maxRecDepth 100000 in
set_option maxHeartbeats 4000000 in
theorem bX12_atOf_62 {X : zX} {d kc ks : Nat} {w : zW} {Q : Option Value → zW → Prop} (v0 : Nat) (v1 : Int32) (v2 : Int32) (v3 : Int32) (v4 : Int32) (v5 : Int32) (u0 : Int32)
    (h : if u0 = 0 then (zRn X d kc ks MX12_atOf 94 [some (.ref v0), some (.int v1), some (.int v2), some (.int v3), none, some (.int v5), none] [.int 0, .int v4] w Q) else (∃ r1, zfR w v0 11 14 = some r1 ∧ (∃ x2, zaI w r1 v5 = some x2 ∧ (∃ r3, zfR w v0 11 15 = some r3 ∧ (∃ x4, zaI w r3 (v5 ||| ((1 : Int32) <<< (v2 &&& 31))) = some x4 ∧ (zRn X d kc ks MX12_atOf 94 [some (.ref v0), some (.int v1), some (.int v2), some (.int v3), none, some (.int v5), none] [.int (x2 * x4), .int v4] w Q)))))) :
    zRn X d kc ks MX12_atOf 62 [some (.ref v0), some (.int v1), some (.int v2), some (.int v3), some (.int v4), some (.int v5), none] [.int u0] w Q := by
  refine z_istore (i := 6) dX12_atOf_62 (by decide) rfl ?_
  refine z_iload v4 dX12_atOf_64 rfl ?_
  refine z_iload u0 dX12_atOf_66 rfl ?_
  refine z_if_eq 93 dX12_atOf_68 rfl (fun hc => ?_) (fun hc => ?_)
  · rw [if_pos hc] at h
    refine z_iconst 0 dX12_atOf_93 rfl ?_
    exact zRn.weak h (zLe_of [true, true, true, true, false, true, false] (And.intro rfl (And.intro rfl (And.intro rfl (And.intro rfl (And.intro rfl (And.intro rfl (And.intro rfl (trivial)))))))))
  · rw [if_neg hc] at h
    refine z_aload_n v0 dX12_atOf_71 rfl rfl ?_
    obtain ⟨r1, e, h⟩ := h
    refine zq_fR f_X12_29 dX12_atOf_72 e ?_
    refine z_iload v5 dX12_atOf_75 rfl ?_
    obtain ⟨x2, e, h⟩ := h
    refine zq_aI dX12_atOf_77 e ?_
    refine z_aload_n v0 dX12_atOf_78 rfl rfl ?_
    obtain ⟨r3, e, h⟩ := h
    refine zq_fR f_X12_32 dX12_atOf_79 e ?_
    refine z_iload v5 dX12_atOf_82 rfl ?_
    refine z_iconst 1 dX12_atOf_84 rfl ?_
    refine z_iload_n v2 dX12_atOf_85 rfl rfl ?_
    refine z_ishl dX12_atOf_86 ?_
    refine z_ior dX12_atOf_87 ?_
    obtain ⟨x4, e, h⟩ := h
    refine zq_aI dX12_atOf_88 e ?_
    refine z_imul dX12_atOf_89 ?_
    refine z_goto 94 dX12_atOf_90 rfl ?_
    exact zRn.weak h (zLe_of [true, true, true, true, false, true, false] (And.intro rfl (And.intro rfl (And.intro rfl (And.intro rfl (And.intro rfl (And.intro rfl (And.intro rfl (trivial)))))))))
set_option maxRecDepth 100000 in
set_option maxHeartbeats 4000000 in
theorem bX12_atOf_94 {X : zX} {d kc ks : Nat} {w : zW} {Q : Option Value → zW → Prop} (v0 : Nat) (v1 : Int32) (v2 : Int32) (v3 : Int32) (v5 : Int32) (u0 : Int32) (u1 : Int32)
    (h : zRn X d kc ks MX12_atOf 6 [some (.ref v0), some (.int v1), some (.int v2), some (.int v3), some (.int (u1 + u0)), some (.int (v5 + 1)), none] [] w Q) :
    zRn X d kc ks MX12_atOf 94 [some (.ref v0), some (.int v1), some (.int v2), some (.int v3), none, some (.int v5), none] [.int u0, .int u1] w Q := by
  refine z_iadd dX12_atOf_94 ?_
  refine z_istore (i := 4) dX12_atOf_95 (by decide) rfl ?_
  refine z_iinc (i := 5) v5 (v5 + 1) dX12_atOf_97 rfl rfl (by decide) rfl ?_
  refine z_goto 6 dX12_atOf_100 rfl ?_
  exact h
theorem eX12_atOf {X : zX} {d kc ks : Nat} {w : zW} {Q : Option Value → zW → Prop} (p0 : Nat) (a1 : Int32) (a2 : Int32) (a3 : Int32) (h : zRn X d kc ks MX12_atOf 0 [some (.ref p0), some (.int a1), some (.int a2), some (.int a3), none, none, none] [] w Q) : zEv X d kc ks MX12_atOf [.ref p0, .int a1, .int a2, .int a3] w Q :=
  zEv.of (by decide) (Nat.le_of_ble_eq_true rfl) (Or.inr (by simp [Value.category])) h
set_option maxRecDepth 100000 in
set_option maxHeartbeats 4000000 in
theorem bX12_mean_0 {X : zX} {d kc ks : Nat} {w : zW} {Q : Option Value → zW → Prop} (p0 : Nat) (a1 : Int32) (a2 : Int32) (a3 : Int32)
    (h : zIs w p0 11 ∧ zCallI X d MX12_isThing [.ref p0, .int a1, .int a2] w (fun x2 w1 => if x2 = 0 then (Q (some (.int (-2))) w1) else (zCallI X d MX12_in [.long ((a3 : Int32).toInt64), .long 0, .long 1] w1 (fun x4 w3 => if x4 = 0 then (Q (some (.int (-2))) w3) else (zIs w3 p0 11 ∧ zCallV X d MX12_laysLines [.ref p0, .int a1] w3 (fun w5 => zRn X d kc ks MX12_mean 33 [some (.ref p0), some (.int a1), some (.int a2), some (.int a3), some (.int 0), some (.int 0)] [] w5 Q)))))) :
    zRn X d kc ks MX12_mean 0 [some (.ref p0), some (.int a1), some (.int a2), some (.int a3), none, none] [] w Q := by
  refine z_aload_n p0 dX12_mean_0 rfl rfl ?_
  refine z_iload_n a1 dX12_mean_1 rfl rfl ?_
  refine z_iload_n a2 dX12_mean_2 rfl rfl ?_
  refine zq_VI (N := MX12_isThing) (As := [.int a1, .int a2]) m_X12_215 dX12_mean_3 rfl rfl (Nat.le_of_ble_eq_true rfl) h (fun x2 w1 h => ?_)
  refine z_if_eq 19 dX12_mean_6 rfl (fun hc => ?_) (fun hc => ?_)
  · rw [if_pos hc] at h
    refine z_bipush (-2) dX12_mean_19 rfl ?_
    exact z_ireturn .int dX12_mean_21 rfl rfl h
  · rw [if_neg hc] at h
    refine z_iload_n a3 dX12_mean_9 rfl rfl ?_
    refine z_i2l dX12_mean_10 ?_
    refine z_lconst 0 dX12_mean_11 rfl ?_
    refine z_lconst 1 dX12_mean_12 rfl ?_
    refine zq_SI (N := MX12_in) (As := [.long ((a3 : Int32).toInt64), .long 0, .long 1]) m_X12_64 dX12_mean_13 rfl rfl (Nat.le_of_ble_eq_true rfl) h (fun x4 w3 h => ?_)
    refine z_if_ne 22 dX12_mean_16 rfl (fun hc => ?_) (fun hc => ?_)
    · rw [if_neg hc] at h
      refine z_aload_n p0 dX12_mean_22 rfl rfl ?_
      refine z_iload_n a1 dX12_mean_23 rfl rfl ?_
      refine zq_VV (N := MX12_laysLines) (As := [.int a1]) m_X12_285 dX12_mean_24 rfl rfl (Nat.le_of_ble_eq_true rfl) h (fun w5 h => ?_)
      refine z_iconst 0 dX12_mean_27 rfl ?_
      refine z_istore (i := 4) dX12_mean_28 (by decide) rfl ?_
      refine z_iconst 0 dX12_mean_30 rfl ?_
      refine z_istore (i := 5) dX12_mean_31 (by decide) rfl ?_
      exact h
    · rw [if_pos hc] at h
      refine z_bipush (-2) dX12_mean_19 rfl ?_
      exact z_ireturn .int dX12_mean_21 rfl rfl h
set_option maxRecDepth 100000 in
set_option maxHeartbeats 4000000 in
theorem bX12_mean_33 {X : zX} {d kc ks : Nat} {w : zW} {Q : Option Value → zW → Prop} (v0 : Nat) (v1 : Int32) (v2 : Int32) (v3 : Int32) (v4 : Int32) (v5 : Int32)
    (h : zIs w v0 11 ∧ zCallI X d MX12_many [.ref v0, .int v1] w (fun x2 w1 => if x2 ≤ v5 then (∃ r3, zfR w1 v0 11 14 = some r3 ∧ (∃ x4, zfI w1 v0 11 16 = some x4 ∧ (∃ x5, zaI w1 r3 x4 = some x5 ∧ (zCallI X d MX12_common [.int x5, .int v4] w1 (fun x7 w6 => if v3 = 0 then (¬ x7 = 0 ∧ (Q (some (.int (v4 / x7))) w6)) else (∃ r8, zfR w6 v0 11 14 = some r8 ∧ (∃ x9, zfI w6 v0 11 16 = some x9 ∧ (∃ x10, zaI w6 r8 x9 = some x10 ∧ (¬ x7 = 0 ∧ (Q (some (.int (x10 / x7))) w6)))))))))) else (zIs w1 v0 11 ∧ zCallI X d MX12_atOf [.ref v0, .int v1, .int v2, .int v5] w1 (fun x12 w11 => zRn X d kc ks MX12_mean 33 [some (.ref v0), some (.int v1), some (.int v2), some (.int v3), some (.int (v4 + (v5 * x12))), some (.int (v5 + 1))] [] w11 Q)))) :
    zRn X d kc ks MX12_mean 33 [some (.ref v0), some (.int v1), some (.int v2), some (.int v3), some (.int v4), some (.int v5)] [] w Q := by
  refine z_iload v5 dX12_mean_33 rfl ?_
  refine z_aload_n v0 dX12_mean_35 rfl rfl ?_
  refine z_iload_n v1 dX12_mean_36 rfl rfl ?_
  refine zq_VI (N := MX12_many) (As := [.int v1]) m_X12_76 dX12_mean_37 rfl rfl (Nat.le_of_ble_eq_true rfl) h (fun x2 w1 h => ?_)
  refine z_icmp_ge 65 dX12_mean_40 rfl (fun hc => ?_) (fun hc => ?_)
  · rw [if_pos hc] at h
    refine z_aload_n v0 dX12_mean_65 rfl rfl ?_
    obtain ⟨r3, e, h⟩ := h
    refine zq_fR f_X12_29 dX12_mean_66 e ?_
    refine z_aload_n v0 dX12_mean_69 rfl rfl ?_
    obtain ⟨x4, e, h⟩ := h
    refine zq_fI f_X12_282 dX12_mean_70 e ?_
    obtain ⟨x5, e, h⟩ := h
    refine zq_aI dX12_mean_73 e ?_
    refine z_iload v4 dX12_mean_74 rfl ?_
    refine zq_SI (N := MX12_common) (As := [.int x5, .int v4]) m_X12_307 dX12_mean_76 rfl rfl (Nat.le_of_ble_eq_true rfl) h (fun x7 w6 h => ?_)
    refine z_istore (i := 5) dX12_mean_79 (by decide) rfl ?_
    refine z_iload_n v3 dX12_mean_81 rfl rfl ?_
    refine z_if_ne 93 dX12_mean_82 rfl (fun hc => ?_) (fun hc => ?_)
    · rw [if_neg hc] at h
      refine z_aload_n v0 dX12_mean_93 rfl rfl ?_
      obtain ⟨r8, e, h⟩ := h
      refine zq_fR f_X12_29 dX12_mean_94 e ?_
      refine z_aload_n v0 dX12_mean_97 rfl rfl ?_
      obtain ⟨x9, e, h⟩ := h
      refine zq_fI f_X12_282 dX12_mean_98 e ?_
      obtain ⟨x10, e, h⟩ := h
      refine zq_aI dX12_mean_101 e ?_
      refine z_iload x7 dX12_mean_102 rfl ?_
      refine z_idiv dX12_mean_104 h.1 ?_
      have h := h.2
      exact z_ireturn .int dX12_mean_105 rfl rfl h
    · rw [if_pos hc] at h
      refine z_iload v4 dX12_mean_85 rfl ?_
      refine z_iload x7 dX12_mean_87 rfl ?_
      refine z_idiv dX12_mean_89 h.1 ?_
      have h := h.2
      refine z_goto 105 dX12_mean_90 rfl ?_
      exact z_ireturn .int dX12_mean_105 rfl rfl h
  · rw [if_neg hc] at h
    refine z_iload v4 dX12_mean_43 rfl ?_
    refine z_iload v5 dX12_mean_45 rfl ?_
    refine z_aload_n v0 dX12_mean_47 rfl rfl ?_
    refine z_iload_n v1 dX12_mean_48 rfl rfl ?_
    refine z_iload_n v2 dX12_mean_49 rfl rfl ?_
    refine z_iload v5 dX12_mean_50 rfl ?_
    refine zq_VI (N := MX12_atOf) (As := [.int v1, .int v2, .int v5]) m_X12_304 dX12_mean_52 rfl rfl (Nat.le_of_ble_eq_true rfl) h (fun x12 w11 h => ?_)
    refine z_imul dX12_mean_55 ?_
    refine z_iadd dX12_mean_56 ?_
    refine z_istore (i := 4) dX12_mean_57 (by decide) rfl ?_
    refine z_iinc (i := 5) v5 (v5 + 1) dX12_mean_59 rfl rfl (by decide) rfl ?_
    refine z_goto 33 dX12_mean_62 rfl ?_
    exact h
theorem eX12_mean {X : zX} {d kc ks : Nat} {w : zW} {Q : Option Value → zW → Prop} (p0 : Nat) (a1 : Int32) (a2 : Int32) (a3 : Int32) (h : zRn X d kc ks MX12_mean 0 [some (.ref p0), some (.int a1), some (.int a2), some (.int a3), none, none] [] w Q) : zEv X d kc ks MX12_mean [.ref p0, .int a1, .int a2, .int a3] w Q :=
  zEv.of (by decide) (Nat.le_of_ble_eq_true rfl) (Or.inr (by simp [Value.category])) h
set_option maxRecDepth 100000 in
set_option maxHeartbeats 4000000 in
theorem bX12_common_0 {X : zX} {d kc ks : Nat} {w : zW} {Q : Option Value → zW → Prop} (a0 : Int32) (a1 : Int32)
    (h : if a1 = 0 then (Q (some (.int a0)) w) else (¬ a1 = 0 ∧ (zCallI X d MX12_common [.int a1, .int (a0 - a0 / a1 * a1)] w (fun x2 w1 => Q (some (.int x2)) w1)))) :
    zRn X d kc ks MX12_common 0 [some (.int a0), some (.int a1)] [] w Q := by
  refine z_iload_n a1 dX12_common_0 rfl rfl ?_
  refine z_if_ne 8 dX12_common_1 rfl (fun hc => ?_) (fun hc => ?_)
  · rw [if_neg hc] at h
    refine z_iload_n a1 dX12_common_8 rfl rfl ?_
    refine z_iload_n a0 dX12_common_9 rfl rfl ?_
    refine z_iload_n a1 dX12_common_10 rfl rfl ?_
    refine z_irem dX12_common_11 h.1 ?_
    have h := h.2
    refine zq_SI (N := MX12_common) (As := [.int a1, .int (a0 - a0 / a1 * a1)]) m_X12_307 dX12_common_12 rfl rfl (Nat.le_of_ble_eq_true rfl) h (fun x2 w1 h => ?_)
    exact z_ireturn .int dX12_common_15 rfl rfl h
  · rw [if_pos hc] at h
    refine z_iload_n a0 dX12_common_4 rfl rfl ?_
    refine z_goto 15 dX12_common_5 rfl ?_
    exact z_ireturn .int dX12_common_15 rfl rfl h
theorem eX12_common {X : zX} {d kc ks : Nat} {w : zW} {Q : Option Value → zW → Prop} (a0 : Int32) (a1 : Int32) (h : zRn X d kc ks MX12_common 0 [some (.int a0), some (.int a1)] [] w Q) : zEv X d kc ks MX12_common [.int a0, .int a1] w Q :=
  zEv.of (by decide) (Nat.le_of_ble_eq_true rfl) (Or.inr (by simp [Value.category])) h
set_option maxRecDepth 100000 in
set_option maxHeartbeats 4000000 in
theorem bX12_balance_0 {X : zX} {d kc ks : Nat} {w : zW} {Q : Option Value → zW → Prop} (p0 : Nat) (a1 : Int32) (a2 : Int32)
    (h : zIs w p0 11 ∧ zCallI X d MX12_isOrder [.ref p0, .int a1] w (fun x2 w1 => if x2 = 0 then (Q (some (.int (-2))) w1) else (zCallI X d MX12_in [.long ((a2 : Int32).toInt64), .long 0, .long 1] w1 (fun x4 w3 => if x4 = 0 then (Q (some (.int (-2))) w3) else (zIs w3 p0 11 ∧ zCallV X d MX12_laysLines [.ref p0, .int a1] w3 (fun w5 => zRn X d kc ks MX12_balance 34 [some (.ref p0), some (.int a1), some (.int a2), some (.int (-1)), some (.int 0), some (.int 0), none, none] [] w5 Q)))))) :
    zRn X d kc ks MX12_balance 0 [some (.ref p0), some (.int a1), some (.int a2), none, none, none, none, none] [] w Q := by
  refine z_aload_n p0 dX12_balance_0 rfl rfl ?_
  refine z_iload_n a1 dX12_balance_1 rfl rfl ?_
  refine zq_VI (N := MX12_isOrder) (As := [.int a1]) m_X12_80 dX12_balance_2 rfl rfl (Nat.le_of_ble_eq_true rfl) h (fun x2 w1 h => ?_)
  refine z_if_eq 18 dX12_balance_5 rfl (fun hc => ?_) (fun hc => ?_)
  · rw [if_pos hc] at h
    refine z_bipush (-2) dX12_balance_18 rfl ?_
    exact z_ireturn .int dX12_balance_20 rfl rfl h
  · rw [if_neg hc] at h
    refine z_iload_n a2 dX12_balance_8 rfl rfl ?_
    refine z_i2l dX12_balance_9 ?_
    refine z_lconst 0 dX12_balance_10 rfl ?_
    refine z_lconst 1 dX12_balance_11 rfl ?_
    refine zq_SI (N := MX12_in) (As := [.long ((a2 : Int32).toInt64), .long 0, .long 1]) m_X12_64 dX12_balance_12 rfl rfl (Nat.le_of_ble_eq_true rfl) h (fun x4 w3 h => ?_)
    refine z_if_ne 21 dX12_balance_15 rfl (fun hc => ?_) (fun hc => ?_)
    · rw [if_neg hc] at h
      refine z_aload_n p0 dX12_balance_21 rfl rfl ?_
      refine z_iload_n a1 dX12_balance_22 rfl rfl ?_
      refine zq_VV (N := MX12_laysLines) (As := [.int a1]) m_X12_285 dX12_balance_23 rfl rfl (Nat.le_of_ble_eq_true rfl) h (fun w5 h => ?_)
      refine z_iconst (-1) dX12_balance_26 rfl ?_
      refine z_istore_n (i := 3) dX12_balance_27 rfl (by decide) rfl ?_
      refine z_iconst 0 dX12_balance_28 rfl ?_
      refine z_istore (i := 4) dX12_balance_29 (by decide) rfl ?_
      refine z_iconst 0 dX12_balance_31 rfl ?_
      refine z_istore (i := 5) dX12_balance_32 (by decide) rfl ?_
      exact h
    · rw [if_pos hc] at h
      refine z_bipush (-2) dX12_balance_18 rfl ?_
      exact z_ireturn .int dX12_balance_20 rfl rfl h
set_option maxRecDepth 100000 in
set_option maxHeartbeats 4000000 in
theorem bX12_balance_34 {X : zX} {d kc ks : Nat} {w : zW} {Q : Option Value → zW → Prop} (v0 : Nat) (v1 : Int32) (v2 : Int32) (v3 : Int32) (v4 : Int32) (v5 : Int32)
    (h : zIs w v0 11 ∧ zCallI X d MX12_many [.ref v0, .int v1] w (fun x2 w1 => if x2 ≤ v5 then (if v3 = (-1) then (zRn X d kc ks MX12_balance 160 [none, none, none, some (.int v3), none, none, none, none] [] w1 Q) else (if v2 = 0 then (zRn X d kc ks MX12_balance 160 [none, none, none, some (.int v3), none, none, none, none] [] w1 Q) else (zIs w1 v0 11 ∧ zCallI X d MX12_beforeOf [.ref v0, .int v1, .int (v3 / 10), .int (v3 - v3 / 10 * 10)] w1 (fun x4 w3 => Q (some (.int x4)) w3)))) else (zRn X d kc ks MX12_balance 50 [some (.ref v0), some (.int v1), some (.int v2), some (.int v3), some (.int v4), some (.int v5), some (.int (v5 + 1)), none] [] w1 Q))) :
    zRn X d kc ks MX12_balance 34 [some (.ref v0), some (.int v1), some (.int v2), some (.int v3), some (.int v4), some (.int v5), none, none] [] w Q := by
  refine z_iload v5 dX12_balance_34 rfl ?_
  refine z_aload_n v0 dX12_balance_36 rfl rfl ?_
  refine z_iload_n v1 dX12_balance_37 rfl rfl ?_
  refine zq_VI (N := MX12_many) (As := [.int v1]) m_X12_76 dX12_balance_38 rfl rfl (Nat.le_of_ble_eq_true rfl) h (fun x2 w1 h => ?_)
  refine z_icmp_ge 151 dX12_balance_41 rfl (fun hc => ?_) (fun hc => ?_)
  · rw [if_pos hc] at h
    refine z_iload_n v3 dX12_balance_151 rfl rfl ?_
    refine z_iconst (-1) dX12_balance_152 rfl ?_
    refine z_icmp_eq 160 dX12_balance_153 rfl (fun hc => ?_) (fun hc => ?_)
    · rw [if_pos hc] at h
      exact zRn.weak h (zLe_of [false, false, false, true, false, false, true, true] (And.intro rfl (And.intro rfl (And.intro rfl (And.intro rfl (And.intro rfl (And.intro rfl (And.intro rfl (And.intro rfl (trivial))))))))))
    · rw [if_neg hc] at h
      refine z_iload_n v2 dX12_balance_156 rfl rfl ?_
      refine z_if_ne 164 dX12_balance_157 rfl (fun hc => ?_) (fun hc => ?_)
      · rw [if_neg hc] at h
        refine z_aload_n v0 dX12_balance_164 rfl rfl ?_
        refine z_iload_n v1 dX12_balance_165 rfl rfl ?_
        refine z_iload_n v3 dX12_balance_166 rfl rfl ?_
        refine z_bipush 10 dX12_balance_167 rfl ?_
        refine z_idiv dX12_balance_169 (by decide) ?_
        refine z_iload_n v3 dX12_balance_170 rfl rfl ?_
        refine z_bipush 10 dX12_balance_171 rfl ?_
        refine z_irem dX12_balance_173 (by decide) ?_
        refine zq_VI (N := MX12_beforeOf) (As := [.int v1, .int (v3 / 10), .int (v3 - v3 / 10 * 10)]) m_X12_301 dX12_balance_174 rfl rfl (Nat.le_of_ble_eq_true rfl) h (fun x4 w3 h => ?_)
        exact z_ireturn .int dX12_balance_177 rfl rfl h
      · rw [if_pos hc] at h
        exact zRn.weak h (zLe_of [false, false, false, true, false, false, true, true] (And.intro rfl (And.intro rfl (And.intro rfl (And.intro rfl (And.intro rfl (And.intro rfl (And.intro rfl (And.intro rfl (trivial))))))))))
  · rw [if_neg hc] at h
    refine z_iload v5 dX12_balance_44 rfl ?_
    refine z_iconst 1 dX12_balance_46 rfl ?_
    refine z_iadd dX12_balance_47 ?_
    refine z_istore (i := 6) dX12_balance_48 (by decide) rfl ?_
    exact h
set_option maxRecDepth 100000 in
set_option maxHeartbeats 4000000 in
theorem bX12_balance_50 {X : zX} {d kc ks : Nat} {w : zW} {Q : Option Value → zW → Prop} (v0 : Nat) (v1 : Int32) (v2 : Int32) (v3 : Int32) (v4 : Int32) (v5 : Int32) (v6 : Int32)
    (h : zIs w v0 11 ∧ zCallI X d MX12_many [.ref v0, .int v1] w (fun x2 w1 => if x2 ≤ v6 then (zRn X d kc ks MX12_balance 34 [some (.ref v0), some (.int v1), some (.int v2), some (.int v3), some (.int v4), some (.int (v5 + 1)), none, none] [] w1 Q) else (zIs w1 v0 11 ∧ zCallI X d MX12_areFree [.ref v0, .int v1, .int v5, .int v6] w1 (fun x4 w3 => if x4 = 0 then (zRn X d kc ks MX12_balance 100 [some (.ref v0), some (.int v1), some (.int v2), some (.int v3), some (.int v4), some (.int v5), some (.int v6), none] [.int 0] w3 Q) else (zIs w3 v0 11 ∧ zCallI X d MX12_beforeOf [.ref v0, .int v1, .int v5, .int v6] w3 (fun x6 w5 => ∃ r7, zfR w5 v0 11 14 = some r7 ∧ (∃ x8, zfI w5 v0 11 16 = some x8 ∧ (∃ x9, zaI w5 r7 x8 = some x9 ∧ (0 < d ∧ (zRn X d kc ks MX12_balance 100 [some (.ref v0), some (.int v1), some (.int v2), some (.int v3), some (.int v4), some (.int v5), some (.int v6), none] [.int (if (0 : Int32) ≤ (((2 : Int32) * x6) - x9) then (((2 : Int32) * x6) - x9) else 0 - (((2 : Int32) * x6) - x9))] w5 Q)))))))))) :
    zRn X d kc ks MX12_balance 50 [some (.ref v0), some (.int v1), some (.int v2), some (.int v3), some (.int v4), some (.int v5), some (.int v6), none] [] w Q := by
  refine z_iload v6 dX12_balance_50 rfl ?_
  refine z_aload_n v0 dX12_balance_52 rfl rfl ?_
  refine z_iload_n v1 dX12_balance_53 rfl rfl ?_
  refine zq_VI (N := MX12_many) (As := [.int v1]) m_X12_76 dX12_balance_54 rfl rfl (Nat.le_of_ble_eq_true rfl) h (fun x2 w1 h => ?_)
  refine z_icmp_ge 145 dX12_balance_57 rfl (fun hc => ?_) (fun hc => ?_)
  · rw [if_pos hc] at h
    refine z_iinc (i := 5) v5 (v5 + 1) dX12_balance_145 rfl rfl (by decide) rfl ?_
    refine z_goto 34 dX12_balance_148 rfl ?_
    exact zRn.weak h (zLe_of [true, true, true, true, true, true, false, true] (And.intro rfl (And.intro rfl (And.intro rfl (And.intro rfl (And.intro rfl (And.intro rfl (And.intro rfl (And.intro rfl (trivial))))))))))
  · rw [if_neg hc] at h
    refine z_aload_n v0 dX12_balance_60 rfl rfl ?_
    refine z_iload_n v1 dX12_balance_61 rfl rfl ?_
    refine z_iload v5 dX12_balance_62 rfl ?_
    refine z_iload v6 dX12_balance_64 rfl ?_
    refine zq_VI (N := MX12_areFree) (As := [.int v1, .int v5, .int v6]) m_X12_227 dX12_balance_66 rfl rfl (Nat.le_of_ble_eq_true rfl) h (fun x4 w3 h => ?_)
    refine z_if_eq 99 dX12_balance_69 rfl (fun hc => ?_) (fun hc => ?_)
    · rw [if_pos hc] at h
      refine z_iconst 0 dX12_balance_99 rfl ?_
      exact h
    · rw [if_neg hc] at h
      refine z_iconst 2 dX12_balance_72 rfl ?_
      refine z_aload_n v0 dX12_balance_73 rfl rfl ?_
      refine z_iload_n v1 dX12_balance_74 rfl rfl ?_
      refine z_iload v5 dX12_balance_75 rfl ?_
      refine z_iload v6 dX12_balance_77 rfl ?_
      refine zq_VI (N := MX12_beforeOf) (As := [.int v1, .int v5, .int v6]) m_X12_301 dX12_balance_79 rfl rfl (Nat.le_of_ble_eq_true rfl) h (fun x6 w5 h => ?_)
      refine z_imul dX12_balance_82 ?_
      refine z_aload_n v0 dX12_balance_83 rfl rfl ?_
      obtain ⟨r7, e, h⟩ := h
      refine zq_fR f_X12_29 dX12_balance_84 e ?_
      refine z_aload_n v0 dX12_balance_87 rfl rfl ?_
      obtain ⟨x8, e, h⟩ := h
      refine zq_fI f_X12_282 dX12_balance_88 e ?_
      obtain ⟨x9, e, h⟩ := h
      refine zq_aI dX12_balance_91 e ?_
      refine z_isub dX12_balance_92 ?_
      refine z_mabs g_1615 g_890 g_106 g_891 dX12_balance_93 (Nat.le_of_ble_eq_true rfl) h.1 ?_
      have h := h.2
      refine z_goto 100 dX12_balance_96 rfl ?_
      exact h
set_option maxRecDepth 100000 in
set_option maxHeartbeats 4000000 in
theorem bX12_balance_100 {X : zX} {d kc ks : Nat} {w : zW} {Q : Option Value → zW → Prop} (v0 : Nat) (v1 : Int32) (v2 : Int32) (v3 : Int32) (v4 : Int32) (v5 : Int32) (v6 : Int32) (u0 : Int32)
    (h : zIs w v0 11 ∧ zCallI X d MX12_areFree [.ref v0, .int v1, .int v5, .int v6] w (fun x2 w1 => if x2 = 0 then (zRn X d kc ks MX12_balance 139 [some (.ref v0), some (.int v1), some (.int v2), some (.int v3), some (.int v4), some (.int v5), some (.int v6), none] [] w1 Q) else (if v3 = (-1) then (zRn X d kc ks MX12_balance 126 [some (.ref v0), some (.int v1), some (.int v2), none, none, some (.int v5), some (.int v6), some (.int u0)] [] w1 Q) else (if v4 ≤ u0 then (zRn X d kc ks MX12_balance 139 [some (.ref v0), some (.int v1), some (.int v2), some (.int v3), some (.int v4), some (.int v5), some (.int v6), none] [] w1 Q) else (zRn X d kc ks MX12_balance 126 [some (.ref v0), some (.int v1), some (.int v2), none, none, some (.int v5), some (.int v6), some (.int u0)] [] w1 Q))))) :
    zRn X d kc ks MX12_balance 100 [some (.ref v0), some (.int v1), some (.int v2), some (.int v3), some (.int v4), some (.int v5), some (.int v6), none] [.int u0] w Q := by
  refine z_istore (i := 7) dX12_balance_100 (by decide) rfl ?_
  refine z_aload_n v0 dX12_balance_102 rfl rfl ?_
  refine z_iload_n v1 dX12_balance_103 rfl rfl ?_
  refine z_iload v5 dX12_balance_104 rfl ?_
  refine z_iload v6 dX12_balance_106 rfl ?_
  refine zq_VI (N := MX12_areFree) (As := [.int v1, .int v5, .int v6]) m_X12_227 dX12_balance_108 rfl rfl (Nat.le_of_ble_eq_true rfl) h (fun x2 w1 h => ?_)
  refine z_if_eq 139 dX12_balance_111 rfl (fun hc => ?_) (fun hc => ?_)
  · rw [if_pos hc] at h
    exact zRn.weak h (zLe_of [true, true, true, true, true, true, true, false] (And.intro rfl (And.intro rfl (And.intro rfl (And.intro rfl (And.intro rfl (And.intro rfl (And.intro rfl (And.intro rfl (trivial))))))))))
  · rw [if_neg hc] at h
    refine z_iload_n v3 dX12_balance_114 rfl rfl ?_
    refine z_iconst (-1) dX12_balance_115 rfl ?_
    refine z_icmp_eq 126 dX12_balance_116 rfl (fun hc => ?_) (fun hc => ?_)
    · rw [if_pos hc] at h
      exact zRn.weak h (zLe_of [true, true, true, false, false, true, true, true] (And.intro rfl (And.intro rfl (And.intro rfl (And.intro rfl (And.intro rfl (And.intro rfl (And.intro rfl (And.intro rfl (trivial))))))))))
    · rw [if_neg hc] at h
      refine z_iload u0 dX12_balance_119 rfl ?_
      refine z_iload v4 dX12_balance_121 rfl ?_
      refine z_icmp_ge 139 dX12_balance_123 rfl (fun hc => ?_) (fun hc => ?_)
      · rw [if_pos hc] at h
        exact zRn.weak h (zLe_of [true, true, true, true, true, true, true, false] (And.intro rfl (And.intro rfl (And.intro rfl (And.intro rfl (And.intro rfl (And.intro rfl (And.intro rfl (And.intro rfl (trivial))))))))))
      · rw [if_neg hc] at h
        exact zRn.weak h (zLe_of [true, true, true, false, false, true, true, true] (And.intro rfl (And.intro rfl (And.intro rfl (And.intro rfl (And.intro rfl (And.intro rfl (And.intro rfl (And.intro rfl (trivial))))))))))
set_option maxRecDepth 100000 in
set_option maxHeartbeats 4000000 in
theorem bX12_balance_126 {X : zX} {d kc ks : Nat} {w : zW} {Q : Option Value → zW → Prop} (v0 : Nat) (v1 : Int32) (v2 : Int32) (v5 : Int32) (v6 : Int32) (v7 : Int32)
    (h : zRn X d kc ks MX12_balance 139 [some (.ref v0), some (.int v1), some (.int v2), some (.int (((10 : Int32) * v5) + v6)), some (.int v7), some (.int v5), some (.int v6), none] [] w Q) :
    zRn X d kc ks MX12_balance 126 [some (.ref v0), some (.int v1), some (.int v2), none, none, some (.int v5), some (.int v6), some (.int v7)] [] w Q := by
  refine z_bipush 10 dX12_balance_126 rfl ?_
  refine z_iload v5 dX12_balance_128 rfl ?_
  refine z_imul dX12_balance_130 ?_
  refine z_iload v6 dX12_balance_131 rfl ?_
  refine z_iadd dX12_balance_133 ?_
  refine z_istore_n (i := 3) dX12_balance_134 rfl (by decide) rfl ?_
  refine z_iload v7 dX12_balance_135 rfl ?_
  refine z_istore (i := 4) dX12_balance_137 (by decide) rfl ?_
  exact zRn.weak h (zLe_of [true, true, true, true, true, true, true, false] (And.intro rfl (And.intro rfl (And.intro rfl (And.intro rfl (And.intro rfl (And.intro rfl (And.intro rfl (And.intro rfl (trivial))))))))))
set_option maxRecDepth 100000 in
set_option maxHeartbeats 4000000 in
theorem bX12_balance_139 {X : zX} {d kc ks : Nat} {w : zW} {Q : Option Value → zW → Prop} (v0 : Nat) (v1 : Int32) (v2 : Int32) (v3 : Int32) (v4 : Int32) (v5 : Int32) (v6 : Int32)
    (h : zRn X d kc ks MX12_balance 50 [some (.ref v0), some (.int v1), some (.int v2), some (.int v3), some (.int v4), some (.int v5), some (.int (v6 + 1)), none] [] w Q) :
    zRn X d kc ks MX12_balance 139 [some (.ref v0), some (.int v1), some (.int v2), some (.int v3), some (.int v4), some (.int v5), some (.int v6), none] [] w Q := by
  refine z_iinc (i := 6) v6 (v6 + 1) dX12_balance_139 rfl rfl (by decide) rfl ?_
  refine z_goto 50 dX12_balance_142 rfl ?_
  exact h
set_option maxRecDepth 100000 in
set_option maxHeartbeats 4000000 in
theorem bX12_balance_160 {X : zX} {d kc ks : Nat} {w : zW} {Q : Option Value → zW → Prop} (v3 : Int32)
    (h : Q (some (.int v3)) w) :
    zRn X d kc ks MX12_balance 160 [none, none, none, some (.int v3), none, none, none, none] [] w Q := by
  refine z_iload_n v3 dX12_balance_160 rfl rfl ?_
  refine z_goto 177 dX12_balance_161 rfl ?_
  exact z_ireturn .int dX12_balance_177 rfl rfl h
theorem eX12_balance {X : zX} {d kc ks : Nat} {w : zW} {Q : Option Value → zW → Prop} (p0 : Nat) (a1 : Int32) (a2 : Int32) (h : zRn X d kc ks MX12_balance 0 [some (.ref p0), some (.int a1), some (.int a2), none, none, none, none, none] [] w Q) : zEv X d kc ks MX12_balance [.ref p0, .int a1, .int a2] w Q :=
  zEv.of (by decide) (Nat.le_of_ble_eq_true rfl) (Or.inr (by simp [Value.category])) h
set_option maxRecDepth 100000 in
set_option maxHeartbeats 4000000 in
theorem bX12_jumps_0 {X : zX} {d kc ks : Nat} {w : zW} {Q : Option Value → zW → Prop} (p0 : Nat) (a1 : Int32) (a2 : Int32)
    (h : zIs w p0 11 ∧ zCallI X d MX12_isOrder [.ref p0, .int a1] w (fun x2 w1 => if x2 = 0 then (Q (some (.int (-2))) w1) else (zCallI X d MX12_in [.long ((a2 : Int32).toInt64), .long 0, .long 1] w1 (fun x4 w3 => if x4 = 0 then (Q (some (.int (-2))) w3) else (if a2 = 1 then (zRn X d kc ks MX12_jumps 30 [none, none, none] [.int 1, .int a1, .ref p0] w3 Q) else (zRn X d kc ks MX12_jumps 30 [none, none, none] [.int 0, .int a1, .ref p0] w3 Q)))))) :
    zRn X d kc ks MX12_jumps 0 [some (.ref p0), some (.int a1), some (.int a2)] [] w Q := by
  refine z_aload_n p0 dX12_jumps_0 rfl rfl ?_
  refine z_iload_n a1 dX12_jumps_1 rfl rfl ?_
  refine zq_VI (N := MX12_isOrder) (As := [.int a1]) m_X12_80 dX12_jumps_2 rfl rfl (Nat.le_of_ble_eq_true rfl) h (fun x2 w1 h => ?_)
  refine z_if_eq 36 dX12_jumps_5 rfl (fun hc => ?_) (fun hc => ?_)
  · rw [if_pos hc] at h
    refine z_bipush (-2) dX12_jumps_36 rfl ?_
    exact z_ireturn .int dX12_jumps_38 rfl rfl h
  · rw [if_neg hc] at h
    refine z_iload_n a2 dX12_jumps_8 rfl rfl ?_
    refine z_i2l dX12_jumps_9 ?_
    refine z_lconst 0 dX12_jumps_10 rfl ?_
    refine z_lconst 1 dX12_jumps_11 rfl ?_
    refine zq_SI (N := MX12_in) (As := [.long ((a2 : Int32).toInt64), .long 0, .long 1]) m_X12_64 dX12_jumps_12 rfl rfl (Nat.le_of_ble_eq_true rfl) h (fun x4 w3 h => ?_)
    refine z_if_eq 36 dX12_jumps_15 rfl (fun hc => ?_) (fun hc => ?_)
    · rw [if_pos hc] at h
      refine z_bipush (-2) dX12_jumps_36 rfl ?_
      exact z_ireturn .int dX12_jumps_38 rfl rfl h
    · rw [if_neg hc] at h
      refine z_aload_n p0 dX12_jumps_18 rfl rfl ?_
      refine z_iload_n a1 dX12_jumps_19 rfl rfl ?_
      refine z_iload_n a2 dX12_jumps_20 rfl rfl ?_
      refine z_iconst 1 dX12_jumps_21 rfl ?_
      refine z_icmp_ne 29 dX12_jumps_22 rfl (fun hc => ?_) (fun hc => ?_)
      · rw [if_neg hc] at h
        refine z_iconst 0 dX12_jumps_29 rfl ?_
        exact zRn.weak h (zLe_of [false, false, false] (And.intro rfl (And.intro rfl (And.intro rfl (trivial)))))
      · rw [if_pos hc] at h
        refine z_iconst 1 dX12_jumps_25 rfl ?_
        refine z_goto 30 dX12_jumps_26 rfl ?_
        exact zRn.weak h (zLe_of [false, false, false] (And.intro rfl (And.intro rfl (And.intro rfl (trivial)))))
set_option maxRecDepth 100000 in
set_option maxHeartbeats 4000000 in
theorem bX12_jumps_30 {X : zX} {d kc ks : Nat} {w : zW} {Q : Option Value → zW → Prop} (u0 : Int32) (u1 : Int32) (u2 : Nat)
    (h : zIs w u2 11 ∧ zCallI X d MX12_laysJumper [.ref u2, .int u1, .int u0] w (fun x2 w1 => Q (some (.int x2)) w1)) :
    zRn X d kc ks MX12_jumps 30 [none, none, none] [.int u0, .int u1, .ref u2] w Q := by
  refine zq_VI (N := MX12_laysJumper) (As := [.int u1, .int u0]) m_X12_317 dX12_jumps_30 rfl rfl (Nat.le_of_ble_eq_true rfl) h (fun x2 w1 h => ?_)
  refine z_goto 38 dX12_jumps_33 rfl ?_
  exact z_ireturn .int dX12_jumps_38 rfl rfl h
theorem eX12_jumps {X : zX} {d kc ks : Nat} {w : zW} {Q : Option Value → zW → Prop} (p0 : Nat) (a1 : Int32) (a2 : Int32) (h : zRn X d kc ks MX12_jumps 0 [some (.ref p0), some (.int a1), some (.int a2)] [] w Q) : zEv X d kc ks MX12_jumps [.ref p0, .int a1, .int a2] w Q :=
  zEv.of (by decide) (Nat.le_of_ble_eq_true rfl) (Or.inr (by simp [Value.category])) h
set_option maxRecDepth 100000 in
set_option maxHeartbeats 4000000 in
theorem bX12_laysJumper_0 {X : zX} {d kc ks : Nat} {w : zW} {Q : Option Value → zW → Prop} (p0 : Nat) (a1 : Int32) (a2 : Int32)
    (h : zIs w p0 11 ∧ zCallV X d MX12_laysLeaps [.ref p0, .int a1, .int a2] w (fun w1 => zRn X d kc ks MX12_laysJumper 11 [some (.ref p0), some (.int a1), some (.int a2), some (.int (-1)), some (.int 0), none, none, none, none] [] w1 Q)) :
    zRn X d kc ks MX12_laysJumper 0 [some (.ref p0), some (.int a1), some (.int a2), none, none, none, none, none, none] [] w Q := by
  refine z_aload_n p0 dX12_laysJumper_0 rfl rfl ?_
  refine z_iload_n a1 dX12_laysJumper_1 rfl rfl ?_
  refine z_iload_n a2 dX12_laysJumper_2 rfl rfl ?_
  refine zq_VV (N := MX12_laysLeaps) (As := [.int a1, .int a2]) m_X12_313 dX12_laysJumper_3 rfl rfl (Nat.le_of_ble_eq_true rfl) h (fun w1 h => ?_)
  refine z_iconst (-1) dX12_laysJumper_6 rfl ?_
  refine z_istore_n (i := 3) dX12_laysJumper_7 rfl (by decide) rfl ?_
  refine z_iconst 0 dX12_laysJumper_8 rfl ?_
  refine z_istore (i := 4) dX12_laysJumper_9 (by decide) rfl ?_
  exact h
set_option maxRecDepth 100000 in
set_option maxHeartbeats 4000000 in
theorem bX12_laysJumper_11 {X : zX} {d kc ks : Nat} {w : zW} {Q : Option Value → zW → Prop} (v0 : Nat) (v1 : Int32) (v2 : Int32) (v3 : Int32) (v4 : Int32)
    (h : zIs w v0 11 ∧ zCallI X d MX12_many [.ref v0, .int v1] w (fun x2 w1 => if x2 ≤ v4 then (∃ r3, zfR w1 v0 11 17 = some r3 ∧ (∃ x4, zaI w1 r3 0 = some x4 ∧ (zRn X d kc ks MX12_laysJumper 115 [some (.ref v0), some (.int v1), none, some (.int v3), some (.int ((1 : Int32) <<< (x4 &&& 31))), some (.int v3), some (.int 1), none, none] [] w1 Q))) else (zIs w1 v0 11 ∧ zCallI X d MX12_under [.ref v0, .int v1, .int v4] w1 (fun x6 w5 => if x6 = 0 then (∃ r7, zfR w5 v0 11 18 = some r7 ∧ (∃ x8, zaI w5 r7 (((8 : Int32) * ((1 : Int32) <<< (v4 &&& 31))) + v4) = some x8 ∧ (zRn X d kc ks MX12_laysJumper 50 [some (.ref v0), some (.int v1), some (.int v2), some (.int v3), some (.int v4), none, none, none, none] [.int x8] w5 Q))) else (zRn X d kc ks MX12_laysJumper 50 [some (.ref v0), some (.int v1), some (.int v2), some (.int v3), some (.int v4), none, none, none, none] [.int (-1)] w5 Q))))) :
    zRn X d kc ks MX12_laysJumper 11 [some (.ref v0), some (.int v1), some (.int v2), some (.int v3), some (.int v4), none, none, none, none] [] w Q := by
  refine z_iload v4 dX12_laysJumper_11 rfl ?_
  refine z_aload_n v0 dX12_laysJumper_13 rfl rfl ?_
  refine z_iload_n v1 dX12_laysJumper_14 rfl rfl ?_
  refine zq_VI (N := MX12_many) (As := [.int v1]) m_X12_76 dX12_laysJumper_15 rfl rfl (Nat.le_of_ble_eq_true rfl) h (fun x2 w1 h => ?_)
  refine z_icmp_ge 99 dX12_laysJumper_18 rfl (fun hc => ?_) (fun hc => ?_)
  · rw [if_pos hc] at h
    refine z_iconst 1 dX12_laysJumper_99 rfl ?_
    refine z_aload_n v0 dX12_laysJumper_100 rfl rfl ?_
    obtain ⟨r3, e, h⟩ := h
    refine zq_fR f_X12_35 dX12_laysJumper_101 e ?_
    refine z_iconst 0 dX12_laysJumper_104 rfl ?_
    obtain ⟨x4, e, h⟩ := h
    refine zq_aI dX12_laysJumper_105 e ?_
    refine z_ishl dX12_laysJumper_106 ?_
    refine z_istore (i := 4) dX12_laysJumper_107 (by decide) rfl ?_
    refine z_iload_n v3 dX12_laysJumper_109 rfl rfl ?_
    refine z_istore (i := 5) dX12_laysJumper_110 (by decide) rfl ?_
    refine z_iconst 1 dX12_laysJumper_112 rfl ?_
    refine z_istore (i := 6) dX12_laysJumper_113 (by decide) rfl ?_
    exact zRn.weak h (zLe_of [true, true, false, true, true, true, true, true, true] (And.intro rfl (And.intro rfl (And.intro rfl (And.intro rfl (And.intro rfl (And.intro rfl (And.intro rfl (And.intro rfl (And.intro rfl (trivial)))))))))))
  · rw [if_neg hc] at h
    refine z_aload_n v0 dX12_laysJumper_21 rfl rfl ?_
    refine z_iload_n v1 dX12_laysJumper_22 rfl rfl ?_
    refine z_iload v4 dX12_laysJumper_23 rfl ?_
    refine zq_VI (N := MX12_under) (As := [.int v1, .int v4]) m_X12_86 dX12_laysJumper_25 rfl rfl (Nat.le_of_ble_eq_true rfl) h (fun x6 w5 h => ?_)
    refine z_if_ne 49 dX12_laysJumper_28 rfl (fun hc => ?_) (fun hc => ?_)
    · rw [if_neg hc] at h
      refine z_iconst (-1) dX12_laysJumper_49 rfl ?_
      exact h
    · rw [if_pos hc] at h
      refine z_aload_n v0 dX12_laysJumper_31 rfl rfl ?_
      obtain ⟨r7, e, h⟩ := h
      refine zq_fR f_X12_38 dX12_laysJumper_32 e ?_
      refine z_bipush 8 dX12_laysJumper_35 rfl ?_
      refine z_iconst 1 dX12_laysJumper_37 rfl ?_
      refine z_iload v4 dX12_laysJumper_38 rfl ?_
      refine z_ishl dX12_laysJumper_40 ?_
      refine z_imul dX12_laysJumper_41 ?_
      refine z_iload v4 dX12_laysJumper_42 rfl ?_
      refine z_iadd dX12_laysJumper_44 ?_
      obtain ⟨x8, e, h⟩ := h
      refine zq_aI dX12_laysJumper_45 e ?_
      refine z_goto 50 dX12_laysJumper_46 rfl ?_
      exact h
set_option maxRecDepth 100000 in
set_option maxHeartbeats 4000000 in
theorem bX12_laysJumper_50 {X : zX} {d kc ks : Nat} {w : zW} {Q : Option Value → zW → Prop} (v0 : Nat) (v1 : Int32) (v2 : Int32) (v3 : Int32) (v4 : Int32) (u0 : Int32)
    (h : if u0 = (-1) then (zRn X d kc ks MX12_laysJumper 93 [some (.ref v0), some (.int v1), some (.int v2), some (.int v3), some (.int v4), none, none, none, none] [] w Q) else (if v3 = (-1) then (zRn X d kc ks MX12_laysJumper 82 [some (.ref v0), some (.int v1), some (.int v2), none, some (.int v4), some (.int u0), none, none, none] [] w Q) else (if v2 = 0 then (if v3 ≤ u0 then (zRn X d kc ks MX12_laysJumper 93 [some (.ref v0), some (.int v1), some (.int v2), some (.int v3), some (.int v4), none, none, none, none] [] w Q) else (zRn X d kc ks MX12_laysJumper 82 [some (.ref v0), some (.int v1), some (.int v2), none, some (.int v4), some (.int u0), none, none, none] [] w Q)) else (if u0 ≤ v3 then (zRn X d kc ks MX12_laysJumper 93 [some (.ref v0), some (.int v1), some (.int v2), some (.int v3), some (.int v4), none, none, none, none] [] w Q) else (zRn X d kc ks MX12_laysJumper 82 [some (.ref v0), some (.int v1), some (.int v2), none, some (.int v4), some (.int u0), none, none, none] [] w Q))))) :
    zRn X d kc ks MX12_laysJumper 50 [some (.ref v0), some (.int v1), some (.int v2), some (.int v3), some (.int v4), none, none, none, none] [.int u0] w Q := by
  refine z_istore (i := 5) dX12_laysJumper_50 (by decide) rfl ?_
  refine z_iload u0 dX12_laysJumper_52 rfl ?_
  refine z_iconst (-1) dX12_laysJumper_54 rfl ?_
  refine z_icmp_eq 93 dX12_laysJumper_55 rfl (fun hc => ?_) (fun hc => ?_)
  · rw [if_pos hc] at h
    exact zRn.weak h (zLe_of [true, true, true, true, true, false, true, true, true] (And.intro rfl (And.intro rfl (And.intro rfl (And.intro rfl (And.intro rfl (And.intro rfl (And.intro rfl (And.intro rfl (And.intro rfl (trivial)))))))))))
  · rw [if_neg hc] at h
    refine z_iload_n v3 dX12_laysJumper_58 rfl rfl ?_
    refine z_iconst (-1) dX12_laysJumper_59 rfl ?_
    refine z_icmp_eq 82 dX12_laysJumper_60 rfl (fun hc => ?_) (fun hc => ?_)
    · rw [if_pos hc] at h
      exact zRn.weak h (zLe_of [true, true, true, false, true, true, true, true, true] (And.intro rfl (And.intro rfl (And.intro rfl (And.intro rfl (And.intro rfl (And.intro rfl (And.intro rfl (And.intro rfl (And.intro rfl (trivial)))))))))))
    · rw [if_neg hc] at h
      refine z_iload_n v2 dX12_laysJumper_63 rfl rfl ?_
      refine z_if_eq 76 dX12_laysJumper_64 rfl (fun hc => ?_) (fun hc => ?_)
      · rw [if_pos hc] at h
        refine z_iload u0 dX12_laysJumper_76 rfl ?_
        refine z_iload_n v3 dX12_laysJumper_78 rfl rfl ?_
        refine z_icmp_ge 93 dX12_laysJumper_79 rfl (fun hc => ?_) (fun hc => ?_)
        · rw [if_pos hc] at h
          exact zRn.weak h (zLe_of [true, true, true, true, true, false, true, true, true] (And.intro rfl (And.intro rfl (And.intro rfl (And.intro rfl (And.intro rfl (And.intro rfl (And.intro rfl (And.intro rfl (And.intro rfl (trivial)))))))))))
        · rw [if_neg hc] at h
          exact zRn.weak h (zLe_of [true, true, true, false, true, true, true, true, true] (And.intro rfl (And.intro rfl (And.intro rfl (And.intro rfl (And.intro rfl (And.intro rfl (And.intro rfl (And.intro rfl (And.intro rfl (trivial)))))))))))
      · rw [if_neg hc] at h
        refine z_iload u0 dX12_laysJumper_67 rfl ?_
        refine z_iload_n v3 dX12_laysJumper_69 rfl rfl ?_
        refine z_icmp_le 93 dX12_laysJumper_70 rfl (fun hc => ?_) (fun hc => ?_)
        · rw [if_pos hc] at h
          exact zRn.weak h (zLe_of [true, true, true, true, true, false, true, true, true] (And.intro rfl (And.intro rfl (And.intro rfl (And.intro rfl (And.intro rfl (And.intro rfl (And.intro rfl (And.intro rfl (And.intro rfl (trivial)))))))))))
        · rw [if_neg hc] at h
          refine z_goto 82 dX12_laysJumper_73 rfl ?_
          exact zRn.weak h (zLe_of [true, true, true, false, true, true, true, true, true] (And.intro rfl (And.intro rfl (And.intro rfl (And.intro rfl (And.intro rfl (And.intro rfl (And.intro rfl (And.intro rfl (And.intro rfl (trivial)))))))))))
set_option maxRecDepth 100000 in
set_option maxHeartbeats 4000000 in
theorem bX12_laysJumper_82 {X : zX} {d kc ks : Nat} {w : zW} {Q : Option Value → zW → Prop} (v0 : Nat) (v1 : Int32) (v2 : Int32) (v4 : Int32) (v5 : Int32)
    (h : ∃ r1, zfR w v0 11 17 = some r1 ∧ (∃ w2, zsI w r1 0 v4 = some w2 ∧ (zRn X d kc ks MX12_laysJumper 93 [some (.ref v0), some (.int v1), some (.int v2), some (.int v5), some (.int v4), none, none, none, none] [] w2 Q))) :
    zRn X d kc ks MX12_laysJumper 82 [some (.ref v0), some (.int v1), some (.int v2), none, some (.int v4), some (.int v5), none, none, none] [] w Q := by
  refine z_iload v5 dX12_laysJumper_82 rfl ?_
  refine z_istore_n (i := 3) dX12_laysJumper_84 rfl (by decide) rfl ?_
  refine z_aload_n v0 dX12_laysJumper_85 rfl rfl ?_
  obtain ⟨r1, e, h⟩ := h
  refine zq_fR f_X12_35 dX12_laysJumper_86 e ?_
  refine z_iconst 0 dX12_laysJumper_89 rfl ?_
  refine z_iload v4 dX12_laysJumper_90 rfl ?_
  obtain ⟨w2, e, h⟩ := h
  refine zq_sI dX12_laysJumper_92 e ?_
  exact zRn.weak h (zLe_of [true, true, true, true, true, false, true, true, true] (And.intro rfl (And.intro rfl (And.intro rfl (And.intro rfl (And.intro rfl (And.intro rfl (And.intro rfl (And.intro rfl (And.intro rfl (trivial)))))))))))
set_option maxRecDepth 100000 in
set_option maxHeartbeats 4000000 in
theorem bX12_laysJumper_93 {X : zX} {d kc ks : Nat} {w : zW} {Q : Option Value → zW → Prop} (v0 : Nat) (v1 : Int32) (v2 : Int32) (v3 : Int32) (v4 : Int32)
    (h : zRn X d kc ks MX12_laysJumper 11 [some (.ref v0), some (.int v1), some (.int v2), some (.int v3), some (.int (v4 + 1)), none, none, none, none] [] w Q) :
    zRn X d kc ks MX12_laysJumper 93 [some (.ref v0), some (.int v1), some (.int v2), some (.int v3), some (.int v4), none, none, none, none] [] w Q := by
  refine z_iinc (i := 4) v4 (v4 + 1) dX12_laysJumper_93 rfl rfl (by decide) rfl ?_
  refine z_goto 11 dX12_laysJumper_96 rfl ?_
  exact h
set_option maxRecDepth 100000 in
set_option maxHeartbeats 4000000 in
theorem bX12_laysJumper_115 {X : zX} {d kc ks : Nat} {w : zW} {Q : Option Value → zW → Prop} (v0 : Nat) (v1 : Int32) (v3 : Int32) (v4 : Int32) (v5 : Int32) (v6 : Int32)
    (h : zIs w v0 11 ∧ zCallI X d MX12_many [.ref v0, .int v1] w (fun x2 w1 => if x2 ≤ v6 then (Q (some (.int v3)) w1) else (∃ r3, zfR w1 v0 11 17 = some r3 ∧ (∃ x4, zaI w1 r3 (v6 - 1) = some x4 ∧ (zRn X d kc ks MX12_laysJumper 139 [some (.ref v0), some (.int v1), none, some (.int v3), some (.int v4), some (.int v5), some (.int v6), some (.int 0), some (.int x4)] [] w1 Q))))) :
    zRn X d kc ks MX12_laysJumper 115 [some (.ref v0), some (.int v1), none, some (.int v3), some (.int v4), some (.int v5), some (.int v6), none, none] [] w Q := by
  refine z_iload v6 dX12_laysJumper_115 rfl ?_
  refine z_aload_n v0 dX12_laysJumper_117 rfl rfl ?_
  refine z_iload_n v1 dX12_laysJumper_118 rfl rfl ?_
  refine zq_VI (N := MX12_many) (As := [.int v1]) m_X12_76 dX12_laysJumper_119 rfl rfl (Nat.le_of_ble_eq_true rfl) h (fun x2 w1 h => ?_)
  refine z_icmp_ge 255 dX12_laysJumper_122 rfl (fun hc => ?_) (fun hc => ?_)
  · rw [if_pos hc] at h
    refine z_iload_n v3 dX12_laysJumper_255 rfl rfl ?_
    exact z_ireturn .int dX12_laysJumper_256 rfl rfl h
  · rw [if_neg hc] at h
    refine z_iconst 0 dX12_laysJumper_125 rfl ?_
    refine z_istore (i := 7) dX12_laysJumper_126 (by decide) rfl ?_
    refine z_aload_n v0 dX12_laysJumper_128 rfl rfl ?_
    obtain ⟨r3, e, h⟩ := h
    refine zq_fR f_X12_35 dX12_laysJumper_129 e ?_
    refine z_iload v6 dX12_laysJumper_132 rfl ?_
    refine z_iconst 1 dX12_laysJumper_134 rfl ?_
    refine z_isub dX12_laysJumper_135 ?_
    obtain ⟨x4, e, h⟩ := h
    refine zq_aI dX12_laysJumper_136 e ?_
    refine z_istore (i := 8) dX12_laysJumper_137 (by decide) rfl ?_
    exact h
set_option maxRecDepth 100000 in
set_option maxHeartbeats 4000000 in
theorem bX12_laysJumper_139 {X : zX} {d kc ks : Nat} {w : zW} {Q : Option Value → zW → Prop} (v0 : Nat) (v1 : Int32) (v3 : Int32) (v4 : Int32) (v5 : Int32) (v6 : Int32) (v7 : Int32) (v8 : Int32)
    (h : zCallI X d MX12_has [.int v4, .int v7] w (fun x2 w1 => if x2 = 0 then (zIs w1 v0 11 ∧ zCallI X d MX12_under [.ref v0, .int v1, .int v7] w1 (fun x4 w3 => if (x4 &&& (v4 ^^^ (-1))) = 0 then (∃ r5, zfR w3 v0 11 18 = some r5 ∧ (∃ x6, zaI w3 r5 (((8 : Int32) * (v4 ||| ((1 : Int32) <<< (v7 &&& 31)))) + v7) = some x6 ∧ (zIs w3 v0 11 ∧ zCallI X d MX12_isBelow [.ref v0, .int v1, .int v8, .int v7] w3 (fun x8 w7 => if x8 = 0 then (zRn X d kc ks MX12_laysJumper 199 [some (.ref v0), some (.int v1), none, some (.int v3), some (.int v4), some (.int v5), some (.int v6), some (.int v7), some (.int v8)] [.int 1, .int x6] w7 Q) else (zRn X d kc ks MX12_laysJumper 199 [some (.ref v0), some (.int v1), none, some (.int v3), some (.int v4), some (.int v5), some (.int v6), some (.int v7), some (.int v8)] [.int 0, .int x6] w7 Q))))) else (zRn X d kc ks MX12_laysJumper 205 [some (.ref v0), some (.int v1), none, some (.int v3), some (.int v4), some (.int v5), some (.int v6), some (.int v7), some (.int v8)] [] w3 Q))) else (zRn X d kc ks MX12_laysJumper 205 [some (.ref v0), some (.int v1), none, some (.int v3), some (.int v4), some (.int v5), some (.int v6), some (.int v7), some (.int v8)] [] w1 Q))) :
    zRn X d kc ks MX12_laysJumper 139 [some (.ref v0), some (.int v1), none, some (.int v3), some (.int v4), some (.int v5), some (.int v6), some (.int v7), some (.int v8)] [] w Q := by
  refine z_iload v4 dX12_laysJumper_139 rfl ?_
  refine z_iload v7 dX12_laysJumper_141 rfl ?_
  refine zq_SI (N := MX12_has) (As := [.int v4, .int v7]) m_X12_89 dX12_laysJumper_143 rfl rfl (Nat.le_of_ble_eq_true rfl) h (fun x2 w1 h => ?_)
  refine z_if_ne 205 dX12_laysJumper_146 rfl (fun hc => ?_) (fun hc => ?_)
  · rw [if_neg hc] at h
    exact h
  · rw [if_pos hc] at h
    refine z_aload_n v0 dX12_laysJumper_149 rfl rfl ?_
    refine z_iload_n v1 dX12_laysJumper_150 rfl rfl ?_
    refine z_iload v7 dX12_laysJumper_151 rfl ?_
    refine zq_VI (N := MX12_under) (As := [.int v1, .int v7]) m_X12_86 dX12_laysJumper_153 rfl rfl (Nat.le_of_ble_eq_true rfl) h (fun x4 w3 h => ?_)
    refine z_iload v4 dX12_laysJumper_156 rfl ?_
    refine z_iconst (-1) dX12_laysJumper_158 rfl ?_
    refine z_ixor dX12_laysJumper_159 ?_
    refine z_iand dX12_laysJumper_160 ?_
    refine z_if_ne 205 dX12_laysJumper_161 rfl (fun hc => ?_) (fun hc => ?_)
    · rw [if_neg hc] at h
      exact h
    · rw [if_pos hc] at h
      refine z_aload_n v0 dX12_laysJumper_164 rfl rfl ?_
      obtain ⟨r5, e, h⟩ := h
      refine zq_fR f_X12_38 dX12_laysJumper_165 e ?_
      refine z_bipush 8 dX12_laysJumper_168 rfl ?_
      refine z_iload v4 dX12_laysJumper_170 rfl ?_
      refine z_iconst 1 dX12_laysJumper_172 rfl ?_
      refine z_iload v7 dX12_laysJumper_173 rfl ?_
      refine z_ishl dX12_laysJumper_175 ?_
      refine z_ior dX12_laysJumper_176 ?_
      refine z_imul dX12_laysJumper_177 ?_
      refine z_iload v7 dX12_laysJumper_178 rfl ?_
      refine z_iadd dX12_laysJumper_180 ?_
      obtain ⟨x6, e, h⟩ := h
      refine zq_aI dX12_laysJumper_181 e ?_
      refine z_aload_n v0 dX12_laysJumper_182 rfl rfl ?_
      refine z_iload_n v1 dX12_laysJumper_183 rfl rfl ?_
      refine z_iload v8 dX12_laysJumper_184 rfl ?_
      refine z_iload v7 dX12_laysJumper_186 rfl ?_
      refine zq_VI (N := MX12_isBelow) (As := [.int v1, .int v8, .int v7]) m_X12_93 dX12_laysJumper_188 rfl rfl (Nat.le_of_ble_eq_true rfl) h (fun x8 w7 h => ?_)
      refine z_if_eq 198 dX12_laysJumper_191 rfl (fun hc => ?_) (fun hc => ?_)
      · rw [if_pos hc] at h
        refine z_iconst 1 dX12_laysJumper_198 rfl ?_
        exact h
      · rw [if_neg hc] at h
        refine z_iconst 0 dX12_laysJumper_194 rfl ?_
        refine z_goto 199 dX12_laysJumper_195 rfl ?_
        exact h
set_option maxRecDepth 100000 in
set_option maxHeartbeats 4000000 in
theorem bX12_laysJumper_199 {X : zX} {d kc ks : Nat} {w : zW} {Q : Option Value → zW → Prop} (v0 : Nat) (v1 : Int32) (v3 : Int32) (v4 : Int32) (v5 : Int32) (v6 : Int32) (v7 : Int32) (v8 : Int32) (u0 : Int32) (u1 : Int32)
    (h : if (u1 + u0) = v5 then (∃ r1, zfR w v0 11 18 = some r1 ∧ (∃ x2, zaI w r1 (((8 : Int32) * (v4 ||| ((1 : Int32) <<< (v7 &&& 31)))) + v7) = some x2 ∧ (∃ r3, zfR w v0 11 17 = some r3 ∧ (∃ w4, zsI w r3 v6 v7 = some w4 ∧ (zRn X d kc ks MX12_laysJumper 115 [some (.ref v0), some (.int v1), none, some (.int v3), some (.int (v4 ||| ((1 : Int32) <<< (v7 &&& 31)))), some (.int x2), some (.int (v6 + 1)), none, none] [] w4 Q))))) else (zRn X d kc ks MX12_laysJumper 205 [some (.ref v0), some (.int v1), none, some (.int v3), some (.int v4), some (.int v5), some (.int v6), some (.int v7), some (.int v8)] [] w Q)) :
    zRn X d kc ks MX12_laysJumper 199 [some (.ref v0), some (.int v1), none, some (.int v3), some (.int v4), some (.int v5), some (.int v6), some (.int v7), some (.int v8)] [.int u0, .int u1] w Q := by
  refine z_iadd dX12_laysJumper_199 ?_
  refine z_iload v5 dX12_laysJumper_200 rfl ?_
  refine z_icmp_eq 211 dX12_laysJumper_202 rfl (fun hc => ?_) (fun hc => ?_)
  · rw [if_pos hc] at h
    refine z_aload_n v0 dX12_laysJumper_211 rfl rfl ?_
    obtain ⟨r1, e, h⟩ := h
    refine zq_fR f_X12_38 dX12_laysJumper_212 e ?_
    refine z_bipush 8 dX12_laysJumper_215 rfl ?_
    refine z_iload v4 dX12_laysJumper_217 rfl ?_
    refine z_iconst 1 dX12_laysJumper_219 rfl ?_
    refine z_iload v7 dX12_laysJumper_220 rfl ?_
    refine z_ishl dX12_laysJumper_222 ?_
    refine z_ior dX12_laysJumper_223 ?_
    refine z_imul dX12_laysJumper_224 ?_
    refine z_iload v7 dX12_laysJumper_225 rfl ?_
    refine z_iadd dX12_laysJumper_227 ?_
    obtain ⟨x2, e, h⟩ := h
    refine zq_aI dX12_laysJumper_228 e ?_
    refine z_istore (i := 5) dX12_laysJumper_229 (by decide) rfl ?_
    refine z_aload_n v0 dX12_laysJumper_231 rfl rfl ?_
    obtain ⟨r3, e, h⟩ := h
    refine zq_fR f_X12_35 dX12_laysJumper_232 e ?_
    refine z_iload v6 dX12_laysJumper_235 rfl ?_
    refine z_iload v7 dX12_laysJumper_237 rfl ?_
    obtain ⟨w4, e, h⟩ := h
    refine zq_sI dX12_laysJumper_239 e ?_
    refine z_iload v4 dX12_laysJumper_240 rfl ?_
    refine z_iconst 1 dX12_laysJumper_242 rfl ?_
    refine z_iload v7 dX12_laysJumper_243 rfl ?_
    refine z_ishl dX12_laysJumper_245 ?_
    refine z_ior dX12_laysJumper_246 ?_
    refine z_istore (i := 4) dX12_laysJumper_247 (by decide) rfl ?_
    refine z_iinc (i := 6) v6 (v6 + 1) dX12_laysJumper_249 rfl rfl (by decide) rfl ?_
    refine z_goto 115 dX12_laysJumper_252 rfl ?_
    exact zRn.weak h (zLe_of [true, true, true, true, true, true, true, false, false] (And.intro rfl (And.intro rfl (And.intro rfl (And.intro rfl (And.intro rfl (And.intro rfl (And.intro rfl (And.intro rfl (And.intro rfl (trivial)))))))))))
  · rw [if_neg hc] at h
    exact h
set_option maxRecDepth 100000 in
set_option maxHeartbeats 4000000 in
theorem bX12_laysJumper_205 {X : zX} {d kc ks : Nat} {w : zW} {Q : Option Value → zW → Prop} (v0 : Nat) (v1 : Int32) (v3 : Int32) (v4 : Int32) (v5 : Int32) (v6 : Int32) (v7 : Int32) (v8 : Int32)
    (h : zRn X d kc ks MX12_laysJumper 139 [some (.ref v0), some (.int v1), none, some (.int v3), some (.int v4), some (.int v5), some (.int v6), some (.int (v7 + 1)), some (.int v8)] [] w Q) :
    zRn X d kc ks MX12_laysJumper 205 [some (.ref v0), some (.int v1), none, some (.int v3), some (.int v4), some (.int v5), some (.int v6), some (.int v7), some (.int v8)] [] w Q := by
  refine z_iinc (i := 7) v7 (v7 + 1) dX12_laysJumper_205 rfl rfl (by decide) rfl ?_
  refine z_goto 139 dX12_laysJumper_208 rfl ?_
  exact h
theorem eX12_laysJumper {X : zX} {d kc ks : Nat} {w : zW} {Q : Option Value → zW → Prop} (p0 : Nat) (a1 : Int32) (a2 : Int32) (h : zRn X d kc ks MX12_laysJumper 0 [some (.ref p0), some (.int a1), some (.int a2), none, none, none, none, none, none] [] w Q) : zEv X d kc ks MX12_laysJumper [.ref p0, .int a1, .int a2] w Q :=
  zEv.of (by decide) (Nat.le_of_ble_eq_true rfl) (Or.inr (by simp [Value.category])) h
set_option maxRecDepth 100000 in
set_option maxHeartbeats 4000000 in
theorem bX12_laysLeaps_0 {X : zX} {d kc ks : Nat} {w : zW} {Q : Option Value → zW → Prop} (p0 : Nat) (a1 : Int32) (a2 : Int32)
    (h : zIs w p0 11 ∧ zCallV X d MX12_laysLines [.ref p0, .int a1] w (fun w1 => ∃ x2, zfI w1 p0 11 16 = some x2 ∧ (zRn X d kc ks MX12_laysLeaps 10 [some (.ref p0), some (.int a1), some (.int a2), some (.int x2), none, none, none, none, none] [] w1 Q))) :
    zRn X d kc ks MX12_laysLeaps 0 [some (.ref p0), some (.int a1), some (.int a2), none, none, none, none, none, none] [] w Q := by
  refine z_aload_n p0 dX12_laysLeaps_0 rfl rfl ?_
  refine z_iload_n a1 dX12_laysLeaps_1 rfl rfl ?_
  refine zq_VV (N := MX12_laysLines) (As := [.int a1]) m_X12_285 dX12_laysLeaps_2 rfl rfl (Nat.le_of_ble_eq_true rfl) h (fun w1 h => ?_)
  refine z_aload_n p0 dX12_laysLeaps_5 rfl rfl ?_
  obtain ⟨x2, e, h⟩ := h
  refine zq_fI f_X12_282 dX12_laysLeaps_6 e ?_
  refine z_istore_n (i := 3) dX12_laysLeaps_9 rfl (by decide) rfl ?_
  exact h
set_option maxRecDepth 100000 in
set_option maxHeartbeats 4000000 in
theorem bX12_laysLeaps_10 {X : zX} {d kc ks : Nat} {w : zW} {Q : Option Value → zW → Prop} (v0 : Nat) (v1 : Int32) (v2 : Int32) (v3 : Int32)
    (h : if v3 ≤ 0 then (Q none w) else (zRn X d kc ks MX12_laysLeaps 17 [some (.ref v0), some (.int v1), some (.int v2), some (.int v3), some (.int 0), none, none, none, none] [] w Q)) :
    zRn X d kc ks MX12_laysLeaps 10 [some (.ref v0), some (.int v1), some (.int v2), some (.int v3), none, none, none, none, none] [] w Q := by
  refine z_iload_n v3 dX12_laysLeaps_10 rfl rfl ?_
  refine z_if_le 190 dX12_laysLeaps_11 rfl (fun hc => ?_) (fun hc => ?_)
  · rw [if_pos hc] at h
    exact z_vreturn dX12_laysLeaps_190 rfl h
  · rw [if_neg hc] at h
    refine z_iconst 0 dX12_laysLeaps_14 rfl ?_
    refine z_istore (i := 4) dX12_laysLeaps_15 (by decide) rfl ?_
    exact h
set_option maxRecDepth 100000 in
set_option maxHeartbeats 4000000 in
theorem bX12_laysLeaps_17 {X : zX} {d kc ks : Nat} {w : zW} {Q : Option Value → zW → Prop} (v0 : Nat) (v1 : Int32) (v2 : Int32) (v3 : Int32) (v4 : Int32)
    (h : zIs w v0 11 ∧ zCallI X d MX12_many [.ref v0, .int v1] w (fun x2 w1 => if x2 ≤ v4 then (zRn X d kc ks MX12_laysLeaps 10 [some (.ref v0), some (.int v1), some (.int v2), some (.int (v3 - 1)), none, none, none, none, none] [] w1 Q) else (∃ x3, zfI w1 v0 11 16 = some x3 ∧ (if v3 = x3 then (zRn X d kc ks MX12_laysLeaps 40 [some (.ref v0), some (.int v1), some (.int v2), some (.int v3), some (.int v4), none, none, none, none] [.int 0] w1 Q) else (zRn X d kc ks MX12_laysLeaps 40 [some (.ref v0), some (.int v1), some (.int v2), some (.int v3), some (.int v4), none, none, none, none] [.int (-1)] w1 Q))))) :
    zRn X d kc ks MX12_laysLeaps 17 [some (.ref v0), some (.int v1), some (.int v2), some (.int v3), some (.int v4), none, none, none, none] [] w Q := by
  refine z_iload v4 dX12_laysLeaps_17 rfl ?_
  refine z_aload_n v0 dX12_laysLeaps_19 rfl rfl ?_
  refine z_iload_n v1 dX12_laysLeaps_20 rfl rfl ?_
  refine zq_VI (N := MX12_many) (As := [.int v1]) m_X12_76 dX12_laysLeaps_21 rfl rfl (Nat.le_of_ble_eq_true rfl) h (fun x2 w1 h => ?_)
  refine z_icmp_ge 184 dX12_laysLeaps_24 rfl (fun hc => ?_) (fun hc => ?_)
  · rw [if_pos hc] at h
    refine z_iinc (i := 3) v3 (v3 - 1) dX12_laysLeaps_184 rfl (zdec _) (by decide) rfl ?_
    refine z_goto 10 dX12_laysLeaps_187 rfl ?_
    exact zRn.weak h (zLe_of [true, true, true, true, false, true, true, true, true] (And.intro rfl (And.intro rfl (And.intro rfl (And.intro rfl (And.intro rfl (And.intro rfl (And.intro rfl (And.intro rfl (And.intro rfl (trivial)))))))))))
  · rw [if_neg hc] at h
    refine z_iload_n v3 dX12_laysLeaps_27 rfl rfl ?_
    refine z_aload_n v0 dX12_laysLeaps_28 rfl rfl ?_
    obtain ⟨x3, e, h⟩ := h
    refine zq_fI f_X12_282 dX12_laysLeaps_29 e ?_
    refine z_icmp_ne 39 dX12_laysLeaps_32 rfl (fun hc => ?_) (fun hc => ?_)
    · rw [if_neg hc] at h
      refine z_iconst (-1) dX12_laysLeaps_39 rfl ?_
      exact h
    · rw [if_pos hc] at h
      refine z_iconst 0 dX12_laysLeaps_35 rfl ?_
      refine z_goto 40 dX12_laysLeaps_36 rfl ?_
      exact h
set_option maxRecDepth 100000 in
set_option maxHeartbeats 4000000 in
theorem bX12_laysLeaps_40 {X : zX} {d kc ks : Nat} {w : zW} {Q : Option Value → zW → Prop} (v0 : Nat) (v1 : Int32) (v2 : Int32) (v3 : Int32) (v4 : Int32) (u0 : Int32)
    (h : zRn X d kc ks MX12_laysLeaps 45 [some (.ref v0), some (.int v1), some (.int v2), some (.int v3), some (.int v4), some (.int u0), some (.int 0), none, none] [] w Q) :
    zRn X d kc ks MX12_laysLeaps 40 [some (.ref v0), some (.int v1), some (.int v2), some (.int v3), some (.int v4), none, none, none, none] [.int u0] w Q := by
  refine z_istore (i := 5) dX12_laysLeaps_40 (by decide) rfl ?_
  refine z_iconst 0 dX12_laysLeaps_42 rfl ?_
  refine z_istore (i := 6) dX12_laysLeaps_43 (by decide) rfl ?_
  exact h
set_option maxRecDepth 100000 in
set_option maxHeartbeats 4000000 in
theorem bX12_laysLeaps_45 {X : zX} {d kc ks : Nat} {w : zW} {Q : Option Value → zW → Prop} (v0 : Nat) (v1 : Int32) (v2 : Int32) (v3 : Int32) (v4 : Int32) (v5 : Int32) (v6 : Int32)
    (h : zIs w v0 11 ∧ zCallI X d MX12_many [.ref v0, .int v1] w (fun x2 w1 => if x2 ≤ v6 then (∃ r3, zfR w1 v0 11 18 = some r3 ∧ (∃ w4, zsI w1 r3 (((8 : Int32) * v3) + v4) v5 = some w4 ∧ (zRn X d kc ks MX12_laysLeaps 17 [some (.ref v0), some (.int v1), some (.int v2), some (.int v3), some (.int (v4 + 1)), none, none, none, none] [] w4 Q))) else (zCallI X d MX12_has [.int v3, .int v6] w1 (fun x6 w5 => if x6 = 0 then (zIs w5 v0 11 ∧ zCallI X d MX12_under [.ref v0, .int v1, .int v6] w5 (fun x8 w7 => if (x8 &&& (v3 ^^^ (-1))) = 0 then (∃ r9, zfR w7 v0 11 18 = some r9 ∧ (∃ x10, zaI w7 r9 (((8 : Int32) * (v3 ||| ((1 : Int32) <<< (v6 &&& 31)))) + v6) = some x10 ∧ (zIs w7 v0 11 ∧ zCallI X d MX12_isBelow [.ref v0, .int v1, .int v4, .int v6] w7 (fun x12 w11 => if x12 = 0 then (zRn X d kc ks MX12_laysLeaps 119 [some (.ref v0), some (.int v1), some (.int v2), some (.int v3), some (.int v4), some (.int v5), some (.int v6), none, none] [.int 1, .int x10] w11 Q) else (zRn X d kc ks MX12_laysLeaps 119 [some (.ref v0), some (.int v1), some (.int v2), some (.int v3), some (.int v4), some (.int v5), some (.int v6), none, none] [.int 0, .int x10] w11 Q))))) else (zRn X d kc ks MX12_laysLeaps 158 [some (.ref v0), some (.int v1), some (.int v2), some (.int v3), some (.int v4), some (.int v5), some (.int v6), none, none] [] w7 Q))) else (zRn X d kc ks MX12_laysLeaps 158 [some (.ref v0), some (.int v1), some (.int v2), some (.int v3), some (.int v4), some (.int v5), some (.int v6), none, none] [] w5 Q))))) :
    zRn X d kc ks MX12_laysLeaps 45 [some (.ref v0), some (.int v1), some (.int v2), some (.int v3), some (.int v4), some (.int v5), some (.int v6), none, none] [] w Q := by
  refine z_iload v6 dX12_laysLeaps_45 rfl ?_
  refine z_aload_n v0 dX12_laysLeaps_47 rfl rfl ?_
  refine z_iload_n v1 dX12_laysLeaps_48 rfl rfl ?_
  refine zq_VI (N := MX12_many) (As := [.int v1]) m_X12_76 dX12_laysLeaps_49 rfl rfl (Nat.le_of_ble_eq_true rfl) h (fun x2 w1 h => ?_)
  refine z_icmp_ge 164 dX12_laysLeaps_52 rfl (fun hc => ?_) (fun hc => ?_)
  · rw [if_pos hc] at h
    refine z_aload_n v0 dX12_laysLeaps_164 rfl rfl ?_
    obtain ⟨r3, e, h⟩ := h
    refine zq_fR f_X12_38 dX12_laysLeaps_165 e ?_
    refine z_bipush 8 dX12_laysLeaps_168 rfl ?_
    refine z_iload_n v3 dX12_laysLeaps_170 rfl rfl ?_
    refine z_imul dX12_laysLeaps_171 ?_
    refine z_iload v4 dX12_laysLeaps_172 rfl ?_
    refine z_iadd dX12_laysLeaps_174 ?_
    refine z_iload v5 dX12_laysLeaps_175 rfl ?_
    obtain ⟨w4, e, h⟩ := h
    refine zq_sI dX12_laysLeaps_177 e ?_
    refine z_iinc (i := 4) v4 (v4 + 1) dX12_laysLeaps_178 rfl rfl (by decide) rfl ?_
    refine z_goto 17 dX12_laysLeaps_181 rfl ?_
    exact zRn.weak h (zLe_of [true, true, true, true, true, false, false, true, true] (And.intro rfl (And.intro rfl (And.intro rfl (And.intro rfl (And.intro rfl (And.intro rfl (And.intro rfl (And.intro rfl (And.intro rfl (trivial)))))))))))
  · rw [if_neg hc] at h
    refine z_iload_n v3 dX12_laysLeaps_55 rfl rfl ?_
    refine z_iload v6 dX12_laysLeaps_56 rfl ?_
    refine zq_SI (N := MX12_has) (As := [.int v3, .int v6]) m_X12_89 dX12_laysLeaps_58 rfl rfl (Nat.le_of_ble_eq_true rfl) h (fun x6 w5 h => ?_)
    refine z_if_ne 158 dX12_laysLeaps_61 rfl (fun hc => ?_) (fun hc => ?_)
    · rw [if_neg hc] at h
      exact h
    · rw [if_pos hc] at h
      refine z_aload_n v0 dX12_laysLeaps_64 rfl rfl ?_
      refine z_iload_n v1 dX12_laysLeaps_65 rfl rfl ?_
      refine z_iload v6 dX12_laysLeaps_66 rfl ?_
      refine zq_VI (N := MX12_under) (As := [.int v1, .int v6]) m_X12_86 dX12_laysLeaps_68 rfl rfl (Nat.le_of_ble_eq_true rfl) h (fun x8 w7 h => ?_)
      refine z_iload_n v3 dX12_laysLeaps_71 rfl rfl ?_
      refine z_iconst (-1) dX12_laysLeaps_72 rfl ?_
      refine z_ixor dX12_laysLeaps_73 ?_
      refine z_iand dX12_laysLeaps_74 ?_
      refine z_if_eq 81 dX12_laysLeaps_75 rfl (fun hc => ?_) (fun hc => ?_)
      · rw [if_pos hc] at h
        refine z_aload_n v0 dX12_laysLeaps_81 rfl rfl ?_
        obtain ⟨r9, e, h⟩ := h
        refine zq_fR f_X12_38 dX12_laysLeaps_82 e ?_
        refine z_bipush 8 dX12_laysLeaps_85 rfl ?_
        refine z_iload_n v3 dX12_laysLeaps_87 rfl rfl ?_
        refine z_iconst 1 dX12_laysLeaps_88 rfl ?_
        refine z_iload v6 dX12_laysLeaps_89 rfl ?_
        refine z_ishl dX12_laysLeaps_91 ?_
        refine z_ior dX12_laysLeaps_92 ?_
        refine z_imul dX12_laysLeaps_93 ?_
        refine z_iload v6 dX12_laysLeaps_94 rfl ?_
        refine z_iadd dX12_laysLeaps_96 ?_
        obtain ⟨x10, e, h⟩ := h
        refine zq_aI dX12_laysLeaps_97 e ?_
        refine z_istore (i := 7) dX12_laysLeaps_98 (by decide) rfl ?_
        refine z_iload x10 dX12_laysLeaps_100 rfl ?_
        refine z_aload_n v0 dX12_laysLeaps_102 rfl rfl ?_
        refine z_iload_n v1 dX12_laysLeaps_103 rfl rfl ?_
        refine z_iload v4 dX12_laysLeaps_104 rfl ?_
        refine z_iload v6 dX12_laysLeaps_106 rfl ?_
        refine zq_VI (N := MX12_isBelow) (As := [.int v1, .int v4, .int v6]) m_X12_93 dX12_laysLeaps_108 rfl rfl (Nat.le_of_ble_eq_true rfl) h (fun x12 w11 h => ?_)
        refine z_if_eq 118 dX12_laysLeaps_111 rfl (fun hc => ?_) (fun hc => ?_)
        · rw [if_pos hc] at h
          refine z_iconst 1 dX12_laysLeaps_118 rfl ?_
          exact zRn.weak h (zLe_of [true, true, true, true, true, true, true, false, true] (And.intro rfl (And.intro rfl (And.intro rfl (And.intro rfl (And.intro rfl (And.intro rfl (And.intro rfl (And.intro rfl (And.intro rfl (trivial)))))))))))
        · rw [if_neg hc] at h
          refine z_iconst 0 dX12_laysLeaps_114 rfl ?_
          refine z_goto 119 dX12_laysLeaps_115 rfl ?_
          exact zRn.weak h (zLe_of [true, true, true, true, true, true, true, false, true] (And.intro rfl (And.intro rfl (And.intro rfl (And.intro rfl (And.intro rfl (And.intro rfl (And.intro rfl (And.intro rfl (And.intro rfl (trivial)))))))))))
      · rw [if_neg hc] at h
        refine z_goto 158 dX12_laysLeaps_78 rfl ?_
        exact h
set_option maxRecDepth 100000 in
set_option maxHeartbeats 4000000 in
theorem bX12_laysLeaps_119 {X : zX} {d kc ks : Nat} {w : zW} {Q : Option Value → zW → Prop} (v0 : Nat) (v1 : Int32) (v2 : Int32) (v3 : Int32) (v4 : Int32) (v5 : Int32) (v6 : Int32) (u0 : Int32) (u1 : Int32)
    (h : if v5 = (-1) then (zRn X d kc ks MX12_laysLeaps 149 [some (.ref v0), some (.int v1), some (.int v2), some (.int v3), some (.int v4), none, some (.int v6), none, some (.int (u1 + u0))] [] w Q) else (if v2 = 0 then (if v5 ≤ (u1 + u0) then (zRn X d kc ks MX12_laysLeaps 154 [some (.ref v0), some (.int v1), some (.int v2), some (.int v3), some (.int v4), some (.int v5), some (.int v6), none, none] [] w Q) else (zRn X d kc ks MX12_laysLeaps 149 [some (.ref v0), some (.int v1), some (.int v2), some (.int v3), some (.int v4), none, some (.int v6), none, some (.int (u1 + u0))] [] w Q)) else (if (u1 + u0) ≤ v5 then (zRn X d kc ks MX12_laysLeaps 154 [some (.ref v0), some (.int v1), some (.int v2), some (.int v3), some (.int v4), some (.int v5), some (.int v6), none, none] [] w Q) else (zRn X d kc ks MX12_laysLeaps 149 [some (.ref v0), some (.int v1), some (.int v2), some (.int v3), some (.int v4), none, some (.int v6), none, some (.int (u1 + u0))] [] w Q)))) :
    zRn X d kc ks MX12_laysLeaps 119 [some (.ref v0), some (.int v1), some (.int v2), some (.int v3), some (.int v4), some (.int v5), some (.int v6), none, none] [.int u0, .int u1] w Q := by
  refine z_iadd dX12_laysLeaps_119 ?_
  refine z_istore (i := 8) dX12_laysLeaps_120 (by decide) rfl ?_
  refine z_iload v5 dX12_laysLeaps_122 rfl ?_
  refine z_iconst (-1) dX12_laysLeaps_124 rfl ?_
  refine z_icmp_eq 149 dX12_laysLeaps_125 rfl (fun hc => ?_) (fun hc => ?_)
  · rw [if_pos hc] at h
    exact zRn.weak h (zLe_of [true, true, true, true, true, false, true, true, true] (And.intro rfl (And.intro rfl (And.intro rfl (And.intro rfl (And.intro rfl (And.intro rfl (And.intro rfl (And.intro rfl (And.intro rfl (trivial)))))))))))
  · rw [if_neg hc] at h
    refine z_iload_n v2 dX12_laysLeaps_128 rfl rfl ?_
    refine z_if_eq 142 dX12_laysLeaps_129 rfl (fun hc => ?_) (fun hc => ?_)
    · rw [if_pos hc] at h
      refine z_iload (u1 + u0) dX12_laysLeaps_142 rfl ?_
      refine z_iload v5 dX12_laysLeaps_144 rfl ?_
      refine z_icmp_ge 154 dX12_laysLeaps_146 rfl (fun hc => ?_) (fun hc => ?_)
      · rw [if_pos hc] at h
        exact zRn.weak h (zLe_of [true, true, true, true, true, true, true, true, false] (And.intro rfl (And.intro rfl (And.intro rfl (And.intro rfl (And.intro rfl (And.intro rfl (And.intro rfl (And.intro rfl (And.intro rfl (trivial)))))))))))
      · rw [if_neg hc] at h
        exact zRn.weak h (zLe_of [true, true, true, true, true, false, true, true, true] (And.intro rfl (And.intro rfl (And.intro rfl (And.intro rfl (And.intro rfl (And.intro rfl (And.intro rfl (And.intro rfl (And.intro rfl (trivial)))))))))))
    · rw [if_neg hc] at h
      refine z_iload (u1 + u0) dX12_laysLeaps_132 rfl ?_
      refine z_iload v5 dX12_laysLeaps_134 rfl ?_
      refine z_icmp_le 154 dX12_laysLeaps_136 rfl (fun hc => ?_) (fun hc => ?_)
      · rw [if_pos hc] at h
        exact zRn.weak h (zLe_of [true, true, true, true, true, true, true, true, false] (And.intro rfl (And.intro rfl (And.intro rfl (And.intro rfl (And.intro rfl (And.intro rfl (And.intro rfl (And.intro rfl (And.intro rfl (trivial)))))))))))
      · rw [if_neg hc] at h
        refine z_goto 149 dX12_laysLeaps_139 rfl ?_
        exact zRn.weak h (zLe_of [true, true, true, true, true, false, true, true, true] (And.intro rfl (And.intro rfl (And.intro rfl (And.intro rfl (And.intro rfl (And.intro rfl (And.intro rfl (And.intro rfl (And.intro rfl (trivial)))))))))))
set_option maxRecDepth 100000 in
set_option maxHeartbeats 4000000 in
theorem bX12_laysLeaps_149 {X : zX} {d kc ks : Nat} {w : zW} {Q : Option Value → zW → Prop} (v0 : Nat) (v1 : Int32) (v2 : Int32) (v3 : Int32) (v4 : Int32) (v6 : Int32) (v8 : Int32)
    (h : zRn X d kc ks MX12_laysLeaps 156 [some (.ref v0), some (.int v1), some (.int v2), some (.int v3), some (.int v4), none, some (.int v6), none, none] [.int v8] w Q) :
    zRn X d kc ks MX12_laysLeaps 149 [some (.ref v0), some (.int v1), some (.int v2), some (.int v3), some (.int v4), none, some (.int v6), none, some (.int v8)] [] w Q := by
  refine z_iload v8 dX12_laysLeaps_149 rfl ?_
  refine z_goto 156 dX12_laysLeaps_151 rfl ?_
  exact zRn.weak h (zLe_of [true, true, true, true, true, true, true, true, false] (And.intro rfl (And.intro rfl (And.intro rfl (And.intro rfl (And.intro rfl (And.intro rfl (And.intro rfl (And.intro rfl (And.intro rfl (trivial)))))))))))
set_option maxRecDepth 100000 in
set_option maxHeartbeats 4000000 in
theorem bX12_laysLeaps_154 {X : zX} {d kc ks : Nat} {w : zW} {Q : Option Value → zW → Prop} (v0 : Nat) (v1 : Int32) (v2 : Int32) (v3 : Int32) (v4 : Int32) (v5 : Int32) (v6 : Int32)
    (h : zRn X d kc ks MX12_laysLeaps 156 [some (.ref v0), some (.int v1), some (.int v2), some (.int v3), some (.int v4), none, some (.int v6), none, none] [.int v5] w Q) :
    zRn X d kc ks MX12_laysLeaps 154 [some (.ref v0), some (.int v1), some (.int v2), some (.int v3), some (.int v4), some (.int v5), some (.int v6), none, none] [] w Q := by
  refine z_iload v5 dX12_laysLeaps_154 rfl ?_
  exact zRn.weak h (zLe_of [true, true, true, true, true, false, true, true, true] (And.intro rfl (And.intro rfl (And.intro rfl (And.intro rfl (And.intro rfl (And.intro rfl (And.intro rfl (And.intro rfl (And.intro rfl (trivial)))))))))))
set_option maxRecDepth 100000 in
set_option maxHeartbeats 4000000 in
theorem bX12_laysLeaps_156 {X : zX} {d kc ks : Nat} {w : zW} {Q : Option Value → zW → Prop} (v0 : Nat) (v1 : Int32) (v2 : Int32) (v3 : Int32) (v4 : Int32) (v6 : Int32) (u0 : Int32)
    (h : zRn X d kc ks MX12_laysLeaps 158 [some (.ref v0), some (.int v1), some (.int v2), some (.int v3), some (.int v4), some (.int u0), some (.int v6), none, none] [] w Q) :
    zRn X d kc ks MX12_laysLeaps 156 [some (.ref v0), some (.int v1), some (.int v2), some (.int v3), some (.int v4), none, some (.int v6), none, none] [.int u0] w Q := by
  refine z_istore (i := 5) dX12_laysLeaps_156 (by decide) rfl ?_
  exact h
set_option maxRecDepth 100000 in
set_option maxHeartbeats 4000000 in
theorem bX12_laysLeaps_158 {X : zX} {d kc ks : Nat} {w : zW} {Q : Option Value → zW → Prop} (v0 : Nat) (v1 : Int32) (v2 : Int32) (v3 : Int32) (v4 : Int32) (v5 : Int32) (v6 : Int32)
    (h : zRn X d kc ks MX12_laysLeaps 45 [some (.ref v0), some (.int v1), some (.int v2), some (.int v3), some (.int v4), some (.int v5), some (.int (v6 + 1)), none, none] [] w Q) :
    zRn X d kc ks MX12_laysLeaps 158 [some (.ref v0), some (.int v1), some (.int v2), some (.int v3), some (.int v4), some (.int v5), some (.int v6), none, none] [] w Q := by
  refine z_iinc (i := 6) v6 (v6 + 1) dX12_laysLeaps_158 rfl rfl (by decide) rfl ?_
  refine z_goto 45 dX12_laysLeaps_161 rfl ?_
  exact h
theorem eX12_laysLeaps {X : zX} {d kc ks : Nat} {w : zW} {Q : Option Value → zW → Prop} (p0 : Nat) (a1 : Int32) (a2 : Int32) (h : zRn X d kc ks MX12_laysLeaps 0 [some (.ref p0), some (.int a1), some (.int a2), none, none, none, none, none, none] [] w Q) : zEv X d kc ks MX12_laysLeaps [.ref p0, .int a1, .int a2] w Q :=
  zEv.of (by decide) (Nat.le_of_ble_eq_true rfl) (Or.inr (by simp [Value.category])) h
set_option maxRecDepth 100000 in
set_option maxHeartbeats 4000000 in
theorem bX12_jumper_0 {X : zX} {d kc ks : Nat} {w : zW} {Q : Option Value → zW → Prop} (p0 : Nat) (a1 : Int32) (a2 : Int32) (a3 : Int32)
    (h : zIs w p0 11 ∧ zCallI X d MX12_isOrder [.ref p0, .int a1] w (fun x2 w1 => if x2 = 0 then (Q (some (.int (-2))) w1) else (zCallI X d MX12_in [.long ((a2 : Int32).toInt64), .long 0, .long 1] w1 (fun x4 w3 => if x4 = 0 then (Q (some (.int (-2))) w3) else (zIs w3 p0 11 ∧ zCallI X d MX12_many [.ref p0, .int a1] w3 (fun x6 w5 => zCallI X d MX12_in [.long ((a3 : Int32).toInt64), .long 0, .long ((x6 - 1 : Int32).toInt64)] w5 (fun x8 w7 => if x8 = 0 then (Q (some (.int (-2))) w7) else (if a2 = 1 then (zRn X d kc ks MX12_jumper 50 [some (.ref p0), none, none, some (.int a3), none] [.int 1, .int a1, .ref p0] w7 Q) else (zRn X d kc ks MX12_jumper 50 [some (.ref p0), none, none, some (.int a3), none] [.int 0, .int a1, .ref p0] w7 Q))))))))) :
    zRn X d kc ks MX12_jumper 0 [some (.ref p0), some (.int a1), some (.int a2), some (.int a3), none] [] w Q := by
  refine z_aload_n p0 dX12_jumper_0 rfl rfl ?_
  refine z_iload_n a1 dX12_jumper_1 rfl rfl ?_
  refine zq_VI (N := MX12_isOrder) (As := [.int a1]) m_X12_80 dX12_jumper_2 rfl rfl (Nat.le_of_ble_eq_true rfl) h (fun x2 w1 h => ?_)
  refine z_if_eq 35 dX12_jumper_5 rfl (fun hc => ?_) (fun hc => ?_)
  · rw [if_pos hc] at h
    refine z_bipush (-2) dX12_jumper_35 rfl ?_
    exact z_ireturn .int dX12_jumper_37 rfl rfl h
  · rw [if_neg hc] at h
    refine z_iload_n a2 dX12_jumper_8 rfl rfl ?_
    refine z_i2l dX12_jumper_9 ?_
    refine z_lconst 0 dX12_jumper_10 rfl ?_
    refine z_lconst 1 dX12_jumper_11 rfl ?_
    refine zq_SI (N := MX12_in) (As := [.long ((a2 : Int32).toInt64), .long 0, .long 1]) m_X12_64 dX12_jumper_12 rfl rfl (Nat.le_of_ble_eq_true rfl) h (fun x4 w3 h => ?_)
    refine z_if_eq 35 dX12_jumper_15 rfl (fun hc => ?_) (fun hc => ?_)
    · rw [if_pos hc] at h
      refine z_bipush (-2) dX12_jumper_35 rfl ?_
      exact z_ireturn .int dX12_jumper_37 rfl rfl h
    · rw [if_neg hc] at h
      refine z_iload_n a3 dX12_jumper_18 rfl rfl ?_
      refine z_i2l dX12_jumper_19 ?_
      refine z_lconst 0 dX12_jumper_20 rfl ?_
      refine z_aload_n p0 dX12_jumper_21 rfl rfl ?_
      refine z_iload_n a1 dX12_jumper_22 rfl rfl ?_
      refine zq_VI (N := MX12_many) (As := [.int a1]) m_X12_76 dX12_jumper_23 rfl rfl (Nat.le_of_ble_eq_true rfl) h (fun x6 w5 h => ?_)
      refine z_iconst 1 dX12_jumper_26 rfl ?_
      refine z_isub dX12_jumper_27 ?_
      refine z_i2l dX12_jumper_28 ?_
      refine zq_SI (N := MX12_in) (As := [.long ((a3 : Int32).toInt64), .long 0, .long ((x6 - 1 : Int32).toInt64)]) m_X12_64 dX12_jumper_29 rfl rfl (Nat.le_of_ble_eq_true rfl) h (fun x8 w7 h => ?_)
      refine z_if_ne 38 dX12_jumper_32 rfl (fun hc => ?_) (fun hc => ?_)
      · rw [if_neg hc] at h
        refine z_aload_n p0 dX12_jumper_38 rfl rfl ?_
        refine z_iload_n a1 dX12_jumper_39 rfl rfl ?_
        refine z_iload_n a2 dX12_jumper_40 rfl rfl ?_
        refine z_iconst 1 dX12_jumper_41 rfl ?_
        refine z_icmp_ne 49 dX12_jumper_42 rfl (fun hc => ?_) (fun hc => ?_)
        · rw [if_neg hc] at h
          refine z_iconst 0 dX12_jumper_49 rfl ?_
          exact zRn.weak h (zLe_of [true, false, false, true, true] (And.intro rfl (And.intro rfl (And.intro rfl (And.intro rfl (And.intro rfl (trivial)))))))
        · rw [if_pos hc] at h
          refine z_iconst 1 dX12_jumper_45 rfl ?_
          refine z_goto 50 dX12_jumper_46 rfl ?_
          exact zRn.weak h (zLe_of [true, false, false, true, true] (And.intro rfl (And.intro rfl (And.intro rfl (And.intro rfl (And.intro rfl (trivial)))))))
      · rw [if_pos hc] at h
        refine z_bipush (-2) dX12_jumper_35 rfl ?_
        exact z_ireturn .int dX12_jumper_37 rfl rfl h
set_option maxRecDepth 100000 in
set_option maxHeartbeats 4000000 in
theorem bX12_jumper_50 {X : zX} {d kc ks : Nat} {w : zW} {Q : Option Value → zW → Prop} (v0 : Nat) (v3 : Int32) (u0 : Int32) (u1 : Int32) (u2 : Nat)
    (h : zIs w u2 11 ∧ zCallI X d MX12_laysJumper [.ref u2, .int u1, .int u0] w (fun x2 w1 => ∃ r3, zfR w1 v0 11 17 = some r3 ∧ (∃ x4, zaI w1 r3 v3 = some x4 ∧ (Q (some (.int x4)) w1)))) :
    zRn X d kc ks MX12_jumper 50 [some (.ref v0), none, none, some (.int v3), none] [.int u0, .int u1, .ref u2] w Q := by
  refine zq_VI (N := MX12_laysJumper) (As := [.int u1, .int u0]) m_X12_317 dX12_jumper_50 rfl rfl (Nat.le_of_ble_eq_true rfl) h (fun x2 w1 h => ?_)
  refine z_istore (i := 4) dX12_jumper_53 (by decide) rfl ?_
  refine z_aload_n v0 dX12_jumper_55 rfl rfl ?_
  obtain ⟨r3, e, h⟩ := h
  refine zq_fR f_X12_35 dX12_jumper_56 e ?_
  refine z_iload_n v3 dX12_jumper_59 rfl rfl ?_
  obtain ⟨x4, e, h⟩ := h
  refine zq_aI dX12_jumper_60 e ?_
  exact z_ireturn .int dX12_jumper_61 rfl rfl h
theorem eX12_jumper {X : zX} {d kc ks : Nat} {w : zW} {Q : Option Value → zW → Prop} (p0 : Nat) (a1 : Int32) (a2 : Int32) (a3 : Int32) (h : zRn X d kc ks MX12_jumper 0 [some (.ref p0), some (.int a1), some (.int a2), some (.int a3), none] [] w Q) : zEv X d kc ks MX12_jumper [.ref p0, .int a1, .int a2, .int a3] w Q :=
  zEv.of (by decide) (Nat.le_of_ble_eq_true rfl) (Or.inr (by simp [Value.category])) h
set_option maxRecDepth 100000 in
set_option maxHeartbeats 4000000 in
theorem bX12_jumpsOf_0 {X : zX} {d kc ks : Nat} {w : zW} {Q : Option Value → zW → Prop} (p0 : Nat) (a1 : Int32) (a2 : Int32)
    (h : zIs w p0 11 ∧ zCallI X d MX12_isRow [.ref p0, .int a1, .int a2] w (fun x2 w1 => if x2 = 0 then (Q (some (.int (-2))) w1) else (zRn X d kc ks MX12_jumpsOf 17 [some (.ref p0), some (.int a1), some (.int a2), some (.int 0), some (.int 1)] [] w1 Q))) :
    zRn X d kc ks MX12_jumpsOf 0 [some (.ref p0), some (.int a1), some (.int a2), none, none] [] w Q := by
  refine z_aload_n p0 dX12_jumpsOf_0 rfl rfl ?_
  refine z_iload_n a1 dX12_jumpsOf_1 rfl rfl ?_
  refine z_iload_n a2 dX12_jumpsOf_2 rfl rfl ?_
  refine zq_VI (N := MX12_isRow) (As := [.int a1, .int a2]) m_X12_295 dX12_jumpsOf_3 rfl rfl (Nat.le_of_ble_eq_true rfl) h (fun x2 w1 h => ?_)
  refine z_if_ne 12 dX12_jumpsOf_6 rfl (fun hc => ?_) (fun hc => ?_)
  · rw [if_neg hc] at h
    refine z_iconst 0 dX12_jumpsOf_12 rfl ?_
    refine z_istore_n (i := 3) dX12_jumpsOf_13 rfl (by decide) rfl ?_
    refine z_iconst 1 dX12_jumpsOf_14 rfl ?_
    refine z_istore (i := 4) dX12_jumpsOf_15 (by decide) rfl ?_
    exact h
  · rw [if_pos hc] at h
    refine z_bipush (-2) dX12_jumpsOf_9 rfl ?_
    exact z_ireturn .int dX12_jumpsOf_11 rfl rfl h
set_option maxRecDepth 100000 in
set_option maxHeartbeats 4000000 in
theorem bX12_jumpsOf_17 {X : zX} {d kc ks : Nat} {w : zW} {Q : Option Value → zW → Prop} (v0 : Nat) (v1 : Int32) (v2 : Int32) (v3 : Int32) (v4 : Int32)
    (h : zIs w v0 11 ∧ zCallI X d MX12_many [.ref v0, .int v1] w (fun x2 w1 => if x2 ≤ v4 then (Q (some (.int v3)) w1) else (zIs w1 v0 11 ∧ zCallI X d MX12_rowAt [.ref v0, .int v1, .int v2, .int (v4 - 1)] w1 (fun x4 w3 => zIs w3 v0 11 ∧ zCallI X d MX12_rowAt [.ref v0, .int v1, .int v2, .int v4] w3 (fun x6 w5 => zIs w5 v0 11 ∧ zCallI X d MX12_isBelow [.ref v0, .int v1, .int x4, .int x6] w5 (fun x8 w7 => if x8 = 0 then (zRn X d kc ks MX12_jumpsOf 59 [some (.ref v0), some (.int v1), some (.int v2), none, some (.int v4)] [.int 1, .int v3] w7 Q) else (zRn X d kc ks MX12_jumpsOf 59 [some (.ref v0), some (.int v1), some (.int v2), none, some (.int v4)] [.int 0, .int v3] w7 Q))))))) :
    zRn X d kc ks MX12_jumpsOf 17 [some (.ref v0), some (.int v1), some (.int v2), some (.int v3), some (.int v4)] [] w Q := by
  refine z_iload v4 dX12_jumpsOf_17 rfl ?_
  refine z_aload_n v0 dX12_jumpsOf_19 rfl rfl ?_
  refine z_iload_n v1 dX12_jumpsOf_20 rfl rfl ?_
  refine zq_VI (N := MX12_many) (As := [.int v1]) m_X12_76 dX12_jumpsOf_21 rfl rfl (Nat.le_of_ble_eq_true rfl) h (fun x2 w1 h => ?_)
  refine z_icmp_ge 67 dX12_jumpsOf_24 rfl (fun hc => ?_) (fun hc => ?_)
  · rw [if_pos hc] at h
    refine z_iload_n v3 dX12_jumpsOf_67 rfl rfl ?_
    exact z_ireturn .int dX12_jumpsOf_68 rfl rfl h
  · rw [if_neg hc] at h
    refine z_iload_n v3 dX12_jumpsOf_27 rfl rfl ?_
    refine z_aload_n v0 dX12_jumpsOf_28 rfl rfl ?_
    refine z_iload_n v1 dX12_jumpsOf_29 rfl rfl ?_
    refine z_aload_n v0 dX12_jumpsOf_30 rfl rfl ?_
    refine z_iload_n v1 dX12_jumpsOf_31 rfl rfl ?_
    refine z_iload_n v2 dX12_jumpsOf_32 rfl rfl ?_
    refine z_iload v4 dX12_jumpsOf_33 rfl ?_
    refine z_iconst 1 dX12_jumpsOf_35 rfl ?_
    refine z_isub dX12_jumpsOf_36 ?_
    refine zq_VI (N := MX12_rowAt) (As := [.int v1, .int v2, .int (v4 - 1)]) m_X12_291 dX12_jumpsOf_37 rfl rfl (Nat.le_of_ble_eq_true rfl) h (fun x4 w3 h => ?_)
    refine z_aload_n v0 dX12_jumpsOf_40 rfl rfl ?_
    refine z_iload_n v1 dX12_jumpsOf_41 rfl rfl ?_
    refine z_iload_n v2 dX12_jumpsOf_42 rfl rfl ?_
    refine z_iload v4 dX12_jumpsOf_43 rfl ?_
    refine zq_VI (N := MX12_rowAt) (As := [.int v1, .int v2, .int v4]) m_X12_291 dX12_jumpsOf_45 rfl rfl (Nat.le_of_ble_eq_true rfl) h (fun x6 w5 h => ?_)
    refine zq_VI (N := MX12_isBelow) (As := [.int v1, .int x4, .int x6]) m_X12_93 dX12_jumpsOf_48 rfl rfl (Nat.le_of_ble_eq_true rfl) h (fun x8 w7 h => ?_)
    refine z_if_eq 58 dX12_jumpsOf_51 rfl (fun hc => ?_) (fun hc => ?_)
    · rw [if_pos hc] at h
      refine z_iconst 1 dX12_jumpsOf_58 rfl ?_
      exact zRn.weak h (zLe_of [true, true, true, false, true] (And.intro rfl (And.intro rfl (And.intro rfl (And.intro rfl (And.intro rfl (trivial)))))))
    · rw [if_neg hc] at h
      refine z_iconst 0 dX12_jumpsOf_54 rfl ?_
      refine z_goto 59 dX12_jumpsOf_55 rfl ?_
      exact zRn.weak h (zLe_of [true, true, true, false, true] (And.intro rfl (And.intro rfl (And.intro rfl (And.intro rfl (And.intro rfl (trivial)))))))
set_option maxRecDepth 100000 in
set_option maxHeartbeats 4000000 in
theorem bX12_jumpsOf_59 {X : zX} {d kc ks : Nat} {w : zW} {Q : Option Value → zW → Prop} (v0 : Nat) (v1 : Int32) (v2 : Int32) (v4 : Int32) (u0 : Int32) (u1 : Int32)
    (h : zRn X d kc ks MX12_jumpsOf 17 [some (.ref v0), some (.int v1), some (.int v2), some (.int (u1 + u0)), some (.int (v4 + 1))] [] w Q) :
    zRn X d kc ks MX12_jumpsOf 59 [some (.ref v0), some (.int v1), some (.int v2), none, some (.int v4)] [.int u0, .int u1] w Q := by
  refine z_iadd dX12_jumpsOf_59 ?_
  refine z_istore_n (i := 3) dX12_jumpsOf_60 rfl (by decide) rfl ?_
  refine z_iinc (i := 4) v4 (v4 + 1) dX12_jumpsOf_61 rfl rfl (by decide) rfl ?_
  refine z_goto 17 dX12_jumpsOf_64 rfl ?_
  exact h
theorem eX12_jumpsOf {X : zX} {d kc ks : Nat} {w : zW} {Q : Option Value → zW → Prop} (p0 : Nat) (a1 : Int32) (a2 : Int32) (h : zRn X d kc ks MX12_jumpsOf 0 [some (.ref p0), some (.int a1), some (.int a2), none, none] [] w Q) : zEv X d kc ks MX12_jumpsOf [.ref p0, .int a1, .int a2] w Q :=
  zEv.of (by decide) (Nat.le_of_ble_eq_true rfl) (Or.inr (by simp [Value.category])) h
