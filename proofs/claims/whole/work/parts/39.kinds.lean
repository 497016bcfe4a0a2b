/-! ===== what an order has: N, two and two, three and one; a lattice ===== -/
abbrev zQb (W : zW) (b : Bool) : Option Value → zW → Prop := fun v w1 => v = some (.int (zB b)) ∧ w1 = W
def zcN (n : Nat) (u : Nat → Nat) (a c : Nat) : Bool := zany n (fun b => (u c &&& zfr n u a).testBit b && !decide (zov n u b &&& (zfr n u a &&& zfr n u c) = 0))
def zHN (n : Nat) (u : Nat → Nat) : Bool := zany n (fun a => zany n (fun c => zlt u a c && zcN n u a c))
def zH22 (n : Nat) (u : Nat → Nat) : Bool := zany n (fun a => zany n (fun b => zlt u a b && !zan n u (zfr n u a &&& zfr n u b)))
def zH31 (n : Nat) (u : Nat → Nat) : Bool := zany n (fun b => zany n (fun a => zany n (fun c => zlt u a b && zlt u b c && !decide ((zfr n u a &&& zfr n u b) &&& zfr n u c = 0))))
def zkN (u : Nat → Nat) (a b c d : Nat) : Bool := zlt u a c && zlt u b c && zlt u b d && zfe u a b && zfe u a d && zfe u c d
def zk2 (u : Nat → Nat) (a b c d : Nat) : Bool := zlt u a b && zlt u c d && zfe u a c && zfe u a d && zfe u b c && zfe u b d
def zk3 (u : Nat → Nat) (a b c d : Nat) : Bool := zlt u a b && zlt u b c && zfe u a d && zfe u b d && zfe u c d
def zex4 (n : Nat) (k : Nat → Nat → Nat → Nat → Bool) : Bool := zany (n * n * n * n) (fun x => k (x / n / n / n) (x / n / n % n) (x / n % n) (x % n))
theorem zex4_iff {n : Nat} {k : Nat → Nat → Nat → Nat → Bool} : zex4 n k = true ↔ ∃ a b c d, (a < n ∧ b < n ∧ c < n ∧ d < n) ∧ k a b c d = true := by
  unfold zex4
  rw [zany_iff]
  constructor
  · rintro ⟨x, hx, hk⟩
    have hn : 0 < n := by
      rcases Nat.eq_zero_or_pos n with q | q
      · subst q
        omega
      · exact q
    refine ⟨_, _, _, _, ⟨?_, Nat.mod_lt _ hn, Nat.mod_lt _ hn, Nat.mod_lt _ hn⟩, hk⟩
    rw [Nat.div_lt_iff_lt_mul hn, Nat.div_lt_iff_lt_mul hn, Nat.div_lt_iff_lt_mul hn]
    exact hx
  · rintro ⟨a, b, c, d, ⟨ha, hb, hc, hd⟩, hk⟩
    have hn : 0 < n := by omega
    have e1 : (((a * n + b) * n + c) * n + d) % n = d := by rw [Nat.mul_comm _ n, Nat.mul_add_mod]; exact Nat.mod_eq_of_lt hd
    have e2 : (((a * n + b) * n + c) * n + d) / n = (a * n + b) * n + c := by rw [Nat.mul_comm _ n, Nat.mul_add_div hn, Nat.div_eq_of_lt hd, Nat.add_zero]
    have e3 : ((a * n + b) * n + c) % n = c := by rw [Nat.mul_comm _ n, Nat.mul_add_mod]; exact Nat.mod_eq_of_lt hc
    have e4 : ((a * n + b) * n + c) / n = a * n + b := by rw [Nat.mul_comm _ n, Nat.mul_add_div hn, Nat.div_eq_of_lt hc, Nat.add_zero]
    have e5 : (a * n + b) % n = b := by rw [Nat.mul_comm _ n, Nat.mul_add_mod]; exact Nat.mod_eq_of_lt hb
    have e6 : (a * n + b) / n = a := by rw [Nat.mul_comm _ n, Nat.mul_add_div hn, Nat.div_eq_of_lt hb, Nat.add_zero]
    refine ⟨((a * n + b) * n + c) * n + d, ?_, ?_⟩
    · have h1 : a * n + b < n * n := by
        have := Nat.mul_le_mul_right n (show a + 1 ≤ n from ha)
        rw [Nat.add_mul, Nat.one_mul] at this
        omega
      have h2 : (a * n + b) * n + c < n * n * n := by
        have := Nat.mul_le_mul_right n (show a * n + b + 1 ≤ n * n from h1)
        rw [Nat.add_mul, Nat.one_mul] at this
        omega
      have := Nat.mul_le_mul_right n (show (a * n + b) * n + c + 1 ≤ n * n * n from h2)
      rw [Nat.add_mul, Nat.one_mul] at this
      omega
    · show k _ _ _ _ = true
      rw [e1, e2, e3, e4, e5, e6]
      exact hk
theorem zfr_fe {n : Nat} {u : Nat → Nat} (h : zPo n u) {a b : Nat} (ha : a < n) (hb : b < n) : (zfr n u a).testBit b = zfe u a b := by
  rw [zfr_bit h _ _ ha]
  unfold zfe
  have e : decide (b = a) = decide (a = b) := by simp [eq_comm]
  simp [hb, e]
theorem zfr_n {n : Nat} {u : Nat → Nat} {a b : Nat} (hb : (zfr n u a).testBit b = true) : b < n := by
  rcases Nat.lt_or_ge b n with q | q
  · exact q
  · rw [zbit_hi (zfr_lt n u a) q] at hb
    cases hb
theorem zfe_sym (u : Nat → Nat) (a b : Nat) : zfe u a b = zfe u b a := by
  unfold zfe
  have e : decide (a = b) = decide (b = a) := by simp [eq_comm]
  rw [e]
  cases decide (b = a) <;> cases zlt u a b <;> cases zlt u b a <;> rfl
theorem zHN_eq {n : Nat} {u : Nat → Nat} (h : zPo n u) : zHN n u = zex4 n (zkN u) := by
  rw [Bool.eq_iff_iff, zex4_iff]
  unfold zHN
  rw [zany_iff]
  constructor
  · rintro ⟨a, ha, h1⟩
    obtain ⟨c, hc, h2⟩ := zany_iff.mp h1
    rw [Bool.and_eq_true] at h2
    obtain ⟨h2, h3⟩ := h2
    obtain ⟨b, hb, h4⟩ := zany_iff.mp h3
    rw [Bool.and_eq_true, Nat.testBit_and, Bool.and_eq_true, Bool.not_eq_true', decide_eq_false_iff_not] at h4
    obtain ⟨⟨h5, h6⟩, h7⟩ := h4
    obtain ⟨d, hd⟩ := zne0.mp h7
    rw [Nat.testBit_and, Nat.testBit_and, Bool.and_eq_true, Bool.and_eq_true, zov_bit h] at hd
    obtain ⟨g1, g2, g3⟩ := hd
    have hdn := zfr_n g2
    rw [zfr_fe h ha hb] at h6
    rw [zfr_fe h ha hdn] at g2
    rw [zfr_fe h hc hdn] at g3
    refine ⟨a, b, c, d, ⟨ha, hb, hc, hdn⟩, ?_⟩
    unfold zkN
    simp [h2, h6, g1, g2, g3]
    exact h5
  · rintro ⟨a, b, c, d, ⟨ha, hb, hc, hd⟩, hk⟩
    unfold zkN at hk
    simp only [Bool.and_eq_true] at hk
    obtain ⟨⟨⟨⟨⟨k1, k2⟩, k3⟩, k4⟩, k5⟩, k6⟩ := hk
    refine ⟨a, ha, zany_iff.mpr ⟨c, hc, ?_⟩⟩
    rw [Bool.and_eq_true]
    refine ⟨k1, zany_iff.mpr ⟨b, hb, ?_⟩⟩
    rw [Bool.and_eq_true, Nat.testBit_and, Bool.and_eq_true, Bool.not_eq_true', decide_eq_false_iff_not, zfr_fe h ha hb]
    refine ⟨⟨k2, k4⟩, zne0.mpr ⟨d, ?_⟩⟩
    rw [Nat.testBit_and, Nat.testBit_and, zov_bit h, zfr_fe h ha hd, zfr_fe h hc hd]
    simp [k3, k5, k6]
theorem zan_no {n : Nat} {u : Nat → Nat} (h : zPo n u) {m : Nat} (hm : m < 2 ^ n) : zan n u m = false ↔ ∃ c d, m.testBit c = true ∧ m.testBit d = true ∧ zlt u c d = true := by
  constructor
  · intro h0
    apply Classical.byContradiction
    intro hne
    have : zan n u m = true := zall_iff.mpr (fun d hd => by
      cases hb : m.testBit d
      · rfl
      · simp only [Bool.not_true, Bool.false_or, decide_eq_true_eq]
        apply zeq0.mpr
        intro c
        rw [Nat.testBit_and]
        cases hc : (u d).testBit c
        · rfl
        · cases hmc : m.testBit c
          · rfl
          · exact absurd ⟨c, d, hmc, hb, hc⟩ hne)
    rw [this] at h0
    cases h0
  · rintro ⟨c, d, hc, hd, hcd⟩
    have hdn := (h.lt hcd).2
    refine zall_no hdn ?_
    simp only [hd, Bool.not_true, Bool.false_or, decide_eq_false_iff_not]
    exact zne0.mpr ⟨c, by rw [Nat.testBit_and]; simp [hc]; exact hcd⟩
theorem zand_lt {a b n : Nat} (h : a < 2 ^ n) : a &&& b < 2 ^ n := Nat.lt_of_le_of_lt Nat.and_le_left h
theorem zH22_eq {n : Nat} {u : Nat → Nat} (h : zPo n u) : zH22 n u = zex4 n (zk2 u) := by
  rw [Bool.eq_iff_iff, zex4_iff]
  unfold zH22
  rw [zany_iff]
  constructor
  · rintro ⟨a, ha, h1⟩
    obtain ⟨b, hb, h2⟩ := zany_iff.mp h1
    rw [Bool.and_eq_true, Bool.not_eq_true'] at h2
    obtain ⟨h2, h3⟩ := h2
    obtain ⟨c, d, g1, g2, g3⟩ := (zan_no h (zand_lt (zfr_lt n u a))).mp h3
    rw [Nat.testBit_and, Bool.and_eq_true] at g1 g2
    have hcn := zfr_n g1.1
    have hdn := zfr_n g2.1
    rw [zfr_fe h ha hcn, zfr_fe h hb hcn] at g1
    rw [zfr_fe h ha hdn, zfr_fe h hb hdn] at g2
    refine ⟨a, b, c, d, ⟨ha, hb, hcn, hdn⟩, ?_⟩
    unfold zk2
    simp [h2, g1, g2, g3]
  · rintro ⟨a, b, c, d, ⟨ha, hb, hc, hd⟩, hk⟩
    unfold zk2 at hk
    simp only [Bool.and_eq_true] at hk
    obtain ⟨⟨⟨⟨⟨k1, k2⟩, k3⟩, k4⟩, k5⟩, k6⟩ := hk
    refine ⟨a, ha, zany_iff.mpr ⟨b, hb, ?_⟩⟩
    rw [Bool.and_eq_true, Bool.not_eq_true']
    refine ⟨k1, (zan_no h (zand_lt (zfr_lt n u a))).mpr ⟨c, d, ?_, ?_, k2⟩⟩
    · rw [Nat.testBit_and, zfr_fe h ha hc, zfr_fe h hb hc]
      simp [k3, k5]
    · rw [Nat.testBit_and, zfr_fe h ha hd, zfr_fe h hb hd]
      simp [k4, k6]
theorem zH31_eq {n : Nat} {u : Nat → Nat} (h : zPo n u) : zH31 n u = zex4 n (zk3 u) := by
  rw [Bool.eq_iff_iff, zex4_iff]
  unfold zH31
  rw [zany_iff]
  constructor
  · rintro ⟨b, hb, h1⟩
    obtain ⟨a, ha, h2⟩ := zany_iff.mp h1
    obtain ⟨c, hc, h3⟩ := zany_iff.mp h2
    rw [Bool.and_eq_true, Bool.and_eq_true, Bool.not_eq_true', decide_eq_false_iff_not] at h3
    obtain ⟨⟨h4, h5⟩, h6⟩ := h3
    obtain ⟨d, hd⟩ := zne0.mp h6
    rw [Nat.testBit_and, Nat.testBit_and, Bool.and_eq_true, Bool.and_eq_true] at hd
    obtain ⟨⟨g1, g2⟩, g3⟩ := hd
    have hdn := zfr_n g1
    rw [zfr_fe h ha hdn] at g1
    rw [zfr_fe h hb hdn] at g2
    rw [zfr_fe h hc hdn] at g3
    refine ⟨a, b, c, d, ⟨ha, hb, hc, hdn⟩, ?_⟩
    unfold zk3
    simp [h4, h5, g1, g2, g3]
  · rintro ⟨a, b, c, d, ⟨ha, hb, hc, hd⟩, hk⟩
    unfold zk3 at hk
    simp only [Bool.and_eq_true] at hk
    obtain ⟨⟨⟨⟨k1, k2⟩, k3⟩, k4⟩, k5⟩ := hk
    refine ⟨b, hb, zany_iff.mpr ⟨a, ha, zany_iff.mpr ⟨c, hc, ?_⟩⟩⟩
    rw [Bool.and_eq_true, Bool.and_eq_true, Bool.not_eq_true', decide_eq_false_iff_not]
    refine ⟨⟨k1, k2⟩, zne0.mpr ⟨d, ?_⟩⟩
    rw [Nat.testBit_and, Nat.testBit_and, zfr_fe h ha hd, zfr_fe h hb hd, zfr_fe h hc hd]
    simp [k3, k4, k5]
section ZK1
variable {X : zX} {I A : zF2} {t : zW} {q n : Nat} {u : Nat → Nat}
theorem v_isLeftOfN (h : zOR I A q n u) {a c : Nat} (ha : a < n) (hc : c < n) : zRd X 2 MX10_isLeftOfN [.ref q, .int (nI a), .int (nI c)] (zWd I A t) (zB (zcN n u a c)) := by
  have h8 := h.n8
  have h28 := z28 h8
  have f1 := zfr_lt n u a
  have hu := h.2.1.u31 c
  refine eX10_isLeftOfN _ _ _ (bX10_isLeftOfN_0 _ _ _ (zvRd h.1.ob (v_belowOf h (by omega)) (by decide) (zvRd h.1.ob (v_freeOf h ha) (by decide) (zvRd h.1.ob (v_freeOf h ha) (by decide) (zvRd h.1.ob (v_freeOf h hc) (by decide) ?_)))))
  rw [zb_and, zb_and]
  have l1 : u c &&& zfr n u a ≤ u c := Nat.and_le_left
  refine zloopE (R := fun k b => zRn X 2 0 0 MX10_isLeftOfN 28 [some (.ref q), none, none, some (.int (nI (u c &&& zfr n u a))), some (.int (nI (zfr n u a &&& zfr n u c))), some (.int (nI k))] [] (zWd I A t) (zQb (zWd I A t) b)) ?_ (fun k hk b h1 h2 => ?_)
  · refine bX10_isLeftOfN_28 _ _ _ _ (zvRd h.1.ob (v_size h) (by decide) ?_)
    rw [if_pos (Int32.le_refl _)]
    exact ⟨rfl, rfl⟩
  · refine bX10_isLeftOfN_28 _ _ _ _ (zvRd h.1.ob (v_size h) (by decide) ?_)
    rw [zi_le (by omega) (by omega), if_neg (by omega), zi_has (by omega) (by omega)]
    by_cases hb : (u c &&& zfr n u a).testBit k = true
    · rw [if_pos hb]
      refine zvRd h.1.ob (v_aboveOf h (by omega)) (by decide) ?_
      have l2 : zov n u k &&& (zfr n u a &&& zfr n u c) ≤ zov n u k := Nat.and_le_left
      have l3 := zov_lt n u k
      rw [zb_and, zi_0 (by omega)]
      by_cases h0 : zov n u k &&& (zfr n u a &&& zfr n u c) = 0
      · rw [if_pos h0]
        refine bX10_isLeftOfN_61 _ _ _ _ ?_
        rw [nI_1]
        exact h1 (by simp [h0])
      · rw [if_neg h0, h2 (by simp only [hb, h0]; rfl)]
        exact ⟨rfl, rfl⟩
    · rw [if_neg hb]
      refine bX10_isLeftOfN_61 _ _ _ _ ?_
      rw [nI_1]
      exact h1 (by simp only [hb]; rfl)
theorem v_hasNn (h : zOR I A q n u) : zRd X 3 MX10_hasN [.ref q] (zWd I A t) (zB (zHN n u)) := by
  have h8 := h.n8
  refine eX10_hasN _ (bX10_hasN_0 _ ?_)
  refine zloopE (R := fun k b => zRn X 3 0 0 MX10_hasN 2 [some (.ref q), some (.int (nI k)), none] [] (zWd I A t) (zQb (zWd I A t) b)) ?_ (fun a ha b h1 h2 => ?_)
  · refine bX10_hasN_2 _ _ (zvRd h.1.ob (v_size h) (by decide) ?_)
    rw [if_pos (Int32.le_refl _)]
    exact ⟨rfl, rfl⟩
  · refine bX10_hasN_2 _ _ (zvRd h.1.ob (v_size h) (by decide) ?_)
    rw [zi_le (by omega) (by omega), if_neg (by omega)]
    have inner := zloopE (n := n) (p := fun c => zlt u a c && zcN n u a c) (R := fun k c => ((c = false → zRn X 3 0 0 MX10_hasN 2 [some (.ref q), some (.int (nI (a + 1))), none] [] (zWd I A t) (zQb (zWd I A t) b)) → (c = true → b = true) → zRn X 3 0 0 MX10_hasN 12 [some (.ref q), some (.int (nI a)), some (.int (nI k))] [] (zWd I A t) (zQb (zWd I A t) b))) (fun g1 g2 => by
      refine bX10_hasN_12 _ _ _ (zvRd h.1.ob (v_size h) (by decide) ?_)
      rw [if_pos (Int32.le_refl _), nI_1]
      exact g1 rfl) (fun k hk c e1 e2 g1 g2 => by
      refine bX10_hasN_12 _ _ _ (zvRd h.1.ob (v_size h) (by decide) ?_)
      rw [zi_le (by omega) (by omega), if_neg (by omega)]
      refine zvRd h.1.ob (v_under h (by omega) (by omega)) (by decide) ?_
      rw [zB_if]
      by_cases hb : zlt u a k = true
      · rw [if_pos hb]
        refine zcRd (v_isLeftOfN h ha hk) (by decide) ?_
        rw [zB_if]
        by_cases hd : zcN n u a k = true
        · rw [if_pos hd, g2 (e2 (by simp only [hb, hd]; rfl))]
          exact ⟨rfl, rfl⟩
        · rw [if_neg hd]
          refine bX10_hasN_40 _ _ _ ?_
          rw [nI_1]
          exact e1 (by simp only [hd]; simp) g1 g2
      · rw [if_neg hb]
        refine bX10_hasN_40 _ _ _ ?_
        rw [nI_1]
        exact e1 (by simp only [hb]; rfl) g1 g2)
    exact inner h1 h2
theorem v_hasTwoAndTwo (h : zOR I A q n u) : zRd X 3 MX10_hasTwoAndTwo [.ref q] (zWd I A t) (zB (zH22 n u)) := by
  have h8 := h.n8
  have h28 := z28 h8
  refine eX10_hasTwoAndTwo _ (bX10_hasTwoAndTwo_0 _ ?_)
  refine zloopE (R := fun k b => zRn X 3 0 0 MX10_hasTwoAndTwo 2 [some (.ref q), some (.int (nI k)), none, none] [] (zWd I A t) (zQb (zWd I A t) b)) ?_ (fun a ha b h1 h2 => ?_)
  · refine bX10_hasTwoAndTwo_2 _ _ (zvRd h.1.ob (v_size h) (by decide) ?_)
    rw [if_pos (Int32.le_refl _)]
    exact ⟨rfl, rfl⟩
  · refine bX10_hasTwoAndTwo_2 _ _ (zvRd h.1.ob (v_size h) (by decide) ?_)
    rw [zi_le (by omega) (by omega), if_neg (by omega)]
    have inner := zloopE (n := n) (p := fun c => zlt u a c && !zan n u (zfr n u a &&& zfr n u c)) (R := fun k c => ((c = false → zRn X 3 0 0 MX10_hasTwoAndTwo 2 [some (.ref q), some (.int (nI (a + 1))), none, none] [] (zWd I A t) (zQb (zWd I A t) b)) → (c = true → b = true) → zRn X 3 0 0 MX10_hasTwoAndTwo 12 [some (.ref q), some (.int (nI a)), some (.int (nI k)), none] [] (zWd I A t) (zQb (zWd I A t) b))) (fun g1 g2 => by
      refine bX10_hasTwoAndTwo_12 _ _ _ (zvRd h.1.ob (v_size h) (by decide) ?_)
      rw [if_pos (Int32.le_refl _), nI_1]
      exact g1 rfl) (fun k hk c e1 e2 g1 g2 => by
      refine bX10_hasTwoAndTwo_12 _ _ _ (zvRd h.1.ob (v_size h) (by decide) ?_)
      rw [zi_le (by omega) (by omega), if_neg (by omega)]
      refine zvRd h.1.ob (v_freeOf h ha) (by decide) (zvRd h.1.ob (v_freeOf h hk) (by decide) (zvRd h.1.ob (v_under h (by omega) (by omega)) (by decide) ?_))
      rw [zB_if, zb_and]
      by_cases hb : zlt u a k = true
      · rw [if_pos hb]
        have f1 := zand_lt (b := zfr n u k) (zfr_lt n u a)
        refine zcRd (v_isFreeSet h (by omega)) (by decide) ?_
        rw [zB_if]
        by_cases hd : zan n u (zfr n u a &&& zfr n u k) = true
        · rw [if_pos hd]
          refine bX10_hasTwoAndTwo_51 _ _ _ ?_
          rw [nI_1]
          exact e1 (by simp only [hd]; simp) g1 g2
        · rw [if_neg hd, g2 (e2 (by simp only [hb, hd]; rfl))]
          exact ⟨rfl, rfl⟩
      · rw [if_neg hb]
        refine bX10_hasTwoAndTwo_51 _ _ _ ?_
        rw [nI_1]
        exact e1 (by simp only [hb]; rfl) g1 g2)
    exact inner h1 h2
theorem v_hasThreeAndOne (h : zOR I A q n u) : zRd X 3 MX10_hasThreeAndOne [.ref q] (zWd I A t) (zB (zH31 n u)) := by
  have h8 := h.n8
  have h28 := z28 h8
  refine eX10_hasThreeAndOne _ (bX10_hasThreeAndOne_0 _ ?_)
  refine zloopE (R := fun k b => zRn X 3 0 0 MX10_hasThreeAndOne 2 [some (.ref q), some (.int (nI k)), none, none, none] [] (zWd I A t) (zQb (zWd I A t) b)) ?_ (fun b0 hb0 b h1 h2 => ?_)
  · refine bX10_hasThreeAndOne_2 _ _ (zvRd h.1.ob (v_size h) (by decide) ?_)
    rw [if_pos (Int32.le_refl _)]
    exact ⟨rfl, rfl⟩
  · refine bX10_hasThreeAndOne_2 _ _ (zvRd h.1.ob (v_size h) (by decide) ?_)
    rw [zi_le (by omega) (by omega), if_neg (by omega)]
    have mid := zloopE (n := n) (p := fun a => zany n (fun c => zlt u a b0 && zlt u b0 c && !decide ((zfr n u a &&& zfr n u b0) &&& zfr n u c = 0))) (R := fun k c => ((c = false → zRn X 3 0 0 MX10_hasThreeAndOne 2 [some (.ref q), some (.int (nI (b0 + 1))), none, none, none] [] (zWd I A t) (zQb (zWd I A t) b)) → (c = true → b = true) → zRn X 3 0 0 MX10_hasThreeAndOne 12 [some (.ref q), some (.int (nI b0)), some (.int (nI k)), none, none] [] (zWd I A t) (zQb (zWd I A t) b))) (fun g1 g2 => by
      refine bX10_hasThreeAndOne_12 _ _ _ (zvRd h.1.ob (v_size h) (by decide) ?_)
      rw [if_pos (Int32.le_refl _), nI_1]
      exact g1 rfl) (fun a ha c e1 e2 g1 g2 => by
      refine bX10_hasThreeAndOne_12 _ _ _ (zvRd h.1.ob (v_size h) (by decide) ?_)
      rw [zi_le (by omega) (by omega), if_neg (by omega)]
      have inner := zloopE (n := n) (p := fun c => zlt u a b0 && zlt u b0 c && !decide ((zfr n u a &&& zfr n u b0) &&& zfr n u c = 0)) (R := fun k c => ((c = false → zRn X 3 0 0 MX10_hasThreeAndOne 12 [some (.ref q), some (.int (nI b0)), some (.int (nI (a + 1))), none, none] [] (zWd I A t) (zQb (zWd I A t) b)) → (c = true → b = true) → zRn X 3 0 0 MX10_hasThreeAndOne 22 [some (.ref q), some (.int (nI b0)), some (.int (nI a)), some (.int (nI k)), none] [] (zWd I A t) (zQb (zWd I A t) b))) (fun g1 g2 => by
        refine bX10_hasThreeAndOne_22 _ _ _ _ (zvRd h.1.ob (v_size h) (by decide) ?_)
        rw [if_pos (Int32.le_refl _), nI_1]
        exact g1 rfl) (fun k hk c e1 e2 g1 g2 => by
        refine bX10_hasThreeAndOne_22 _ _ _ _ (zvRd h.1.ob (v_size h) (by decide) ?_)
        rw [zi_le (by omega) (by omega), if_neg (by omega)]
        refine zvRd h.1.ob (v_freeOf h ha) (by decide) (zvRd h.1.ob (v_freeOf h hb0) (by decide) (zvRd h.1.ob (v_freeOf h hk) (by decide) (zvRd h.1.ob (v_under h (by omega) (by omega)) (by decide) ?_)))
        rw [zB_if]
        by_cases hb : zlt u a b0 = true
        · rw [if_pos hb]
          refine zvRd h.1.ob (v_under h (by omega) (by omega)) (by decide) ?_
          rw [zB_if]
          by_cases hd : zlt u b0 k = true
          · rw [if_pos hd]
            have f1 := zand_lt (b := zfr n u k) (zand_lt (b := zfr n u b0) (zfr_lt n u a))
            rw [zb_and, zb_and, zi_0 (by omega)]
            by_cases h0 : (zfr n u a &&& zfr n u b0) &&& zfr n u k = 0
            · rw [if_pos h0]
              refine bX10_hasThreeAndOne_74 _ _ _ _ ?_
              rw [nI_1]
              exact e1 (by simp [h0]) g1 g2
            · rw [if_neg h0, g2 (e2 (by simp only [hb, hd, h0]; rfl))]
              exact ⟨rfl, rfl⟩
          · rw [if_neg hd]
            refine bX10_hasThreeAndOne_74 _ _ _ _ ?_
            rw [nI_1]
            exact e1 (by simp only [hd]; simp) g1 g2
        · rw [if_neg hb]
          refine bX10_hasThreeAndOne_74 _ _ _ _ ?_
          rw [nI_1]
          exact e1 (by simp only [hb]; rfl) g1 g2)
      exact inner (fun z => e1 z g1 g2) (fun z => g2 (e2 z)))
    exact mid h1 h2
end ZK1
