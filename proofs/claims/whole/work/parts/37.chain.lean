/-! ===== chains: the class's and the reference's ===== -/
def zfst (p : Nat → Bool) : Nat → Nat
  | 0 => 0
  | n + 1 => if zfst p n < n then zfst p n else if p n then n else n + 1
theorem zfst_le (p : Nat → Bool) : ∀ n, zfst p n ≤ n
  | 0 => Nat.le_refl _
  | n + 1 => by
    have ih := zfst_le p n
    rw [zfst]
    split
    · omega
    · split <;> omega
theorem zfst_no (p : Nat → Bool) : ∀ n k, k < zfst p n → p k = false
  | 0, k, h => absurd h (Nat.not_lt_zero _)
  | n + 1, k, h => by
    have ih := zfst_no p n
    have hle := zfst_le p n
    rw [zfst] at h
    split at h
    · exact ih k h
    · rename_i h1
      have e : zfst p n = n := by omega
      split at h
      · exact ih k (by omega)
      · rename_i h2
        rcases Nat.lt_or_ge k n with q | q
        · exact ih k (by omega)
        · have : k = n := by omega
          subst this
          simpa using h2
theorem zfst_yes (p : Nat → Bool) : ∀ n, zfst p n < n → p (zfst p n) = true
  | 0, h => absurd h (Nat.not_lt_zero _)
  | n + 1, h => by
    have ih := zfst_yes p n
    rw [zfst] at h ⊢
    split
    · rename_i h1
      exact ih h1
    · rename_i h1
      rw [if_neg h1] at h
      split
      · rename_i h2
        exact h2
      · rename_i h2
        rw [if_neg h2] at h
        omega
theorem zfst_lt {p : Nat → Bool} {n k : Nat} (hk : k < n) (h : p k = true) : zfst p n ≤ k := by
  rcases Nat.lt_or_ge k (zfst p n) with q | q
  · rw [zfst_no p n k q] at h
    cases h
  · exact q
theorem zfst_is {p : Nat → Bool} {n k : Nat} (hk : k < n) (h : p k = true) (hn : ∀ j, j < k → p j = false) : zfst p n = k := by
  have h1 := zfst_lt hk h
  rcases Nat.lt_or_ge (zfst p n) k with q | q
  · have := zfst_yes p n (by omega)
    rw [hn _ q] at this
    cases this
  · omega
/-- the chain, thing by thing: the set that is left, the thing -/
def zcs1 (n : Nat) (u : Nat → Nat) (m left : Nat) : Nat := zfst (fun a => m.testBit a && decide (zde (zov n u) n a = left)) n
def zcst (n : Nat) (u : Nat → Nat) : Nat → Nat
  | 0 => 2 ^ n - 1
  | j + 1 => zov n u (zcs1 n u (zcst n u j) (zhe n u - j))
def zch (n : Nat) (u : Nat → Nat) (j : Nat) : Nat := zcs1 n u (zcst n u j) (zhe n u - j)
theorem zcst_lt {n : Nat} {u : Nat → Nat} : ∀ j, zcst n u j < 2 ^ n
  | 0 => by
    have := Nat.one_le_two_pow (n := n)
    show 2 ^ n - 1 < 2 ^ n
    omega
  | j + 1 => zov_lt _ _ _
theorem zhe_n {n : Nat} {u : Nat → Nat} (h : zPo n u) : zhe n u ≤ n := zmx_le _ _ _ (fun j hj => zde_n (zTr.o h) hj)
theorem zch_ok {n : Nat} {u : Nat → Nat} (h : zPo n u) : ∀ j, j < zhe n u → zch n u j < n ∧ (zcst n u j).testBit (zch n u j) = true ∧ zde (zov n u) n (zch n u j) = zhe n u - j := by
  have hT := zTr.o h
  have key : ∀ j, j < zhe n u → (∃ a, a < n ∧ (zcst n u j).testBit a = true ∧ zde (zov n u) n a = zhe n u - j) → zch n u j < n ∧ (zcst n u j).testBit (zch n u j) = true ∧ zde (zov n u) n (zch n u j) = zhe n u - j := by
    intro j hj ⟨a, h1, h2, h3⟩
    have hp : (fun a => (zcst n u j).testBit a && decide (zde (zov n u) n a = zhe n u - j)) a = true := by simp [h2, h3]
    have hl := zfst_lt (p := fun a => (zcst n u j).testBit a && decide (zde (zov n u) n a = zhe n u - j)) h1 hp
    have hlt : zch n u j < n := by
      show zfst _ n < n
      omega
    have hy := zfst_yes (fun a => (zcst n u j).testBit a && decide (zde (zov n u) n a = zhe n u - j)) n hlt
    simp only [Bool.and_eq_true, decide_eq_true_eq] at hy
    exact ⟨hlt, hy.1, hy.2⟩
  intro j
  induction j with
  | zero =>
    intro hj
    refine key 0 hj ?_
    rcases zmx_in (fun i => zde (zov n u) n i) n with h0 | ⟨a, ha, h0⟩
    · have : zhe n u = 0 := h0
      omega
    · refine ⟨a, ha, ?_, ?_⟩
      · show (2 ^ n - 1).testBit a = true
        rw [Nat.testBit_two_pow_sub_one]
        simp [ha]
      · exact h0.symm
  | succ j ih =>
    intro hj
    obtain ⟨h1, h2, h3⟩ := ih (by omega)
    refine key (j + 1) hj ?_
    have h4 := zde_eq hT (zch n u j)
    rcases zmx_in (fun b => if (zov n u (zch n u j)).testBit b = true then zde (zov n u) n b else 0) n with h0 | ⟨b, hb, h0⟩
    · omega
    · by_cases hbb : (zov n u (zch n u j)).testBit b = true
      · rw [if_pos hbb] at h0
        exact ⟨b, hb, hbb, by omega⟩
      · rw [if_neg hbb] at h0
        omega
section ZC1
variable {X : zX} {I A : zF2} {t : zW} {q n : Nat} {u : Nat → Nat}
theorem v_height (h : zOR I A q n u) : zEv X 3 0 0 MX1_height [.ref 80, .ref q] (zWd I A t) (fun v w1 => ∃ x, v = some (.int x) ∧ x = nI (zhe n u) ∧ ∃ D, w1 = zWd I (va_up A 81 D) t ∧ ∀ i, i < n → D i = nI (zde (zov n u) n i)) := by
  have h8 := h.n8
  refine eX1_height _ _ (bX1_height_0 _ _ ⟨ob_80.is, zcV (v_measure h true) (by decide) ?_⟩)
  rintro w1 ⟨D, rfl, hD⟩
  have hD : ∀ i, i < n → D i = nI (zde (zov n u) n i) := hD
  have hO := h.up (p := 81) (f := D) (by decide)
  refine zdown (P := fun k => zRn X 3 0 0 MX1_height 10 [some (.ref 80), some (.ref q), some (.int (nI (zmx k (fun i => zde (zov n u) n i)))), some (.int (nI k))] [] (zWd I (va_up A 81 D) t) _) (n := n) ?_ (fun k hk ih => ?_) 0 (Nat.zero_le _)
  · refine bX1_height_10 _ _ _ _ (zvRd h.1.ob (v_size hO) (by decide) ?_)
    rw [if_pos (Int32.le_refl _)]
    exact ⟨_, rfl, rfl, D, rfl, hD⟩
  · refine bX1_height_10 _ _ _ _ (zvRd h.1.ob (v_size hO) (by decide) ?_)
    rw [zi_le (by omega) (by omega), if_neg (by omega)]
    have h1 := zde_n (zTr.o h.2.1) hk
    have h2 : zmx k (fun i => zde (zov n u) n i) ≤ n := zmx_le _ _ _ (fun j hj => zde_n (zTr.o h.2.1) (by omega))
    refine ⟨_, fr_80_0.rd, _, (ar_81.rd (by omega)).trans (by rw [zup_eq, hD k hk]), by decide, ?_⟩
    rw [zmx_s] at ih
    rw [zi_lt (by omega) (by omega), nI_1]
    split at ih
    · rename_i hc
      rw [if_pos hc]
      exact ih
    · rename_i hc
      rw [if_neg hc]
      exact ih
theorem v_depth (h : zOR I A q n u) (up : Bool) {a : Nat} (ha : a < n) : zEv X 3 0 0 MX1_depth [.ref 80, .ref q, .int (nI a), .int (zB up)] (zWd I A t) (fun v w1 => ∃ x, v = some (.int x) ∧ x = nI (zde (zS n u up) n a) ∧ ∃ D, w1 = zWd I (va_up A 81 D) t) := by
  have h8 := h.n8
  refine eX1_depth _ _ _ _ (bX1_depth_0 _ _ _ _ ⟨ob_80.is, zcV (v_measure h up) (by decide) ?_⟩)
  rintro w1 ⟨D, rfl, hD⟩
  have hO := h.up (p := 81) (f := D) (by decide)
  refine zvRd h.1.ob (v_hasN hO (by omega)) (by decide) ?_
  rw [zB_ifP, if_pos ha]
  exact ⟨_, fr_80_0.rd, _, (ar_81.rd (by omega)).trans (by rw [zup_eq, hD a ha]), _, rfl, rfl, D, rfl⟩
theorem v_leastOfDepth (h : zOR I A q n u) {D : Nat → Nat} (hD : ∀ i, i < n → A 81 i = nI (D i) ∧ D i ≤ 8) {m left : Nat} (hm : m < 2 ^ 31) (hl : left ≤ 8) (hx : zfst (fun a => m.testBit a && decide (D a = left)) n < n) : zRd X 1 MX1_leastOfDepth [.ref 80, .ref q, .int (nI m), .int (nI left)] (zWd I A t) (nI (zfst (fun a => m.testBit a && decide (D a = left)) n)) := by
  have h8 := h.n8
  refine eX1_leastOfDepth _ _ _ _ (bX1_leastOfDepth_0 _ _ _ _ ?_)
  generalize hf : zfst (fun a => m.testBit a && decide (D a = left)) n = f at *
  have hno : ∀ k, k < f → (fun a => m.testBit a && decide (D a = left)) k = false := fun k hk => zfst_no _ n k (by rw [hf]; exact hk)
  have hyes : (fun a => m.testBit a && decide (D a = left)) f = true := by
    have := zfst_yes (fun a => m.testBit a && decide (D a = left)) n (by rw [hf]; exact hx)
    rw [hf] at this
    exact this
  simp only [Bool.and_eq_true, decide_eq_true_eq] at hyes
  refine zdown (P := fun k => zRn X 1 0 0 MX1_leastOfDepth 3 [some (.ref 80), some (.ref q), some (.int (nI m)), some (.int (nI left)), some (.int (nI k))] [] (zWd I A t) _) (n := f) ?_ (fun k hk ih => ?_) 0 (Nat.zero_le _)
  · refine bX1_leastOfDepth_3 _ _ _ _ _ (zvRd h.1.ob (v_size h) (by decide) ?_)
    have e1 := hD f hx
    rw [zi_le (by omega) (by omega), if_neg (by omega), zi_has hm (by omega), if_pos hyes.1]
    refine ⟨_, fr_80_0.rd, _, (ar_81.rd (by omega)).trans (by rw [e1.1]), ?_⟩
    rw [hyes.2, if_pos rfl]
    exact ⟨rfl, rfl⟩
  · refine bX1_leastOfDepth_3 _ _ _ _ _ (zvRd h.1.ob (v_size h) (by decide) ?_)
    have e1 := hD k (by omega)
    have e2 := hno k hk
    rw [zi_le (by omega) (by omega), if_neg (by omega), zi_has hm (by omega)]
    by_cases hb : m.testBit k = true
    · rw [if_pos hb]
      refine ⟨_, fr_80_0.rd, _, (ar_81.rd (by omega)).trans (by rw [e1.1]), ?_⟩
      simp only [hb, Bool.true_and, decide_eq_false_iff_not] at e2
      rw [zi_eq (by omega) (by omega), if_neg e2]
      refine bX1_leastOfDepth_36 _ _ _ _ _ ?_
      rw [nI_1]
      exact ih
    · rw [if_neg hb]
      refine bX1_leastOfDepth_36 _ _ _ _ _ ?_
      rw [nI_1]
      exact ih
theorem v_longestAt (h : zOR I A q n u) {k : Nat} (hk : k < 2 ^ 31) : zEv X 4 0 0 MX1_longestAt [.ref 80, .ref q, .int (nI k)] (zWd I A t) (fun v w1 => ∃ x, v = some (.int x) ∧ x = (if k < zhe n u then nI (zch n u k) else -1) ∧ ∃ D, w1 = zWd I (va_up A 81 D) t) := by
  have h8 := h.n8
  have hh := zhe_n h.2.1
  refine eX1_longestAt _ _ _ (bX1_longestAt_0 _ _ _ ⟨ob_80.is, zcI2 (v_height h) (by decide) ?_⟩)
  rintro x w1 ⟨rfl, D, rfl, hD⟩
  have hO := h.up (p := 81) (f := D) (by decide)
  rw [zi_lt hk (by omega)]
  by_cases hkh : k < zhe n u
  · rw [if_pos hkh, if_pos hkh]
    refine zvRd h.1.ob (v_all hO) (by decide) ?_
    have main : ∀ j, j ≤ k → ∀ (v5 : Int32), (v5 = if j = 0 then -1 else nI (zch n u (j - 1))) → zRn X 4 0 0 MX1_longestAt 25 [some (.ref 80), some (.ref q), some (.int (nI k)), some (.int (nI (zhe n u - j))), some (.int (nI (zcst n u j))), some (.int v5), some (.int (nI j))] [] (zWd I (va_up A 81 D) t) (fun v w1 => ∃ x, v = some (.int x) ∧ x = nI (zch n u k) ∧ ∃ D, w1 = zWd I (va_up A 81 D) t) := by
      have step : ∀ j, j ≤ k → (∀ v5, (v5 = nI (zch n u j)) → zRn X 4 0 0 MX1_longestAt 25 [some (.ref 80), some (.ref q), some (.int (nI k)), some (.int (nI (zhe n u - (j + 1)))), some (.int (nI (zcst n u (j + 1)))), some (.int v5), some (.int (nI (j + 1)))] [] (zWd I (va_up A 81 D) t) (fun v w1 => ∃ x, v = some (.int x) ∧ x = nI (zch n u k) ∧ ∃ D, w1 = zWd I (va_up A 81 D) t)) → ∀ v5, zRn X 4 0 0 MX1_longestAt 25 [some (.ref 80), some (.ref q), some (.int (nI k)), some (.int (nI (zhe n u - j))), some (.int (nI (zcst n u j))), some (.int v5), some (.int (nI j))] [] (zWd I (va_up A 81 D) t) (fun v w1 => ∃ x, v = some (.int x) ∧ x = nI (zch n u k) ∧ ∃ D, w1 = zWd I (va_up A 81 D) t) := by
        intro j hj ih v5
        obtain ⟨c1, c2, c3⟩ := zch_ok h.2.1 j (by omega)
        have hs := zcst_lt (n := n) (u := u) j
        have h28 := z28 h8
        refine bX1_longestAt_25 _ _ _ _ _ _ _ ?_
        rw [zi_lt (by omega) (by omega), if_neg (by omega)]
        refine zvRd ob_80 (v_leastOfDepth hO (D := fun i => zde (zov n u) n i) (fun i hi => ⟨by rw [zup_eq]; exact hD i hi, by have := zde_n (zTr.o h.2.1) hi; omega⟩) (m := zcst n u j) (left := zhe n u - j) (by omega) (by omega) c1) (by decide) ?_
        refine zvRd h.1.ob (v_aboveOf hO (a := zch n u j) (by omega)) (by decide) ?_
        show zRn X 4 0 0 _ _ [_, _, _, some (.int (nI (zhe n u - j) - nI 1)), _, _, _] _ _ _
        rw [pk_sub (by omega), nI_1, show zhe n u - j - 1 = zhe n u - (j + 1) by omega]
        exact ih _ rfl
      refine zdown ?_ ?_
      · intro v5 _
        refine step k (Nat.le_refl _) (fun v5 e => ?_) v5
        refine bX1_longestAt_25 _ _ _ _ _ _ _ ?_
        rw [zi_lt (by omega) (by omega), if_pos (by omega)]
        exact ⟨_, rfl, e, D, rfl⟩
      · intro j hj ih v5 _
        refine step j (by omega) (fun v5 e => ih v5 ?_) v5
        rw [if_neg (by omega), Nat.add_sub_cancel]
        exact e
    exact main 0 (Nat.zero_le _) _ rfl
  · rw [if_neg hkh, if_neg hkh]
    exact ⟨_, rfl, rfl, D, rfl⟩
/-- levelled: what covers another is one deeper -/
def zlv (n : Nat) (u : Nat → Nat) : Bool := zall n (fun a => zall n (fun b => !zcv n u a b || decide (zde u n b = zde u n a + 1)))
theorem v_isLevelled (h : zOR I A q n u) : zEv X 4 0 0 MX1_isLevelled [.ref 80, .ref q] (zWd I A t) (fun v w1 => ∃ x, v = some (.int x) ∧ x = zB (zlv n u) ∧ ∃ D, w1 = zWd I (va_up A 81 D) t) := by
  have h8 := h.n8
  have h28 := z28 h8
  refine eX1_isLevelled _ _ (bX1_isLevelled_0 _ _ ⟨ob_80.is, zcV (v_measure h false) (by decide) ?_⟩)
  rintro w1 ⟨D, rfl, hD⟩
  have hO := h.up (p := 81) (f := D) (by decide)
  refine zloopA (R := fun k b => zRn X 4 0 0 MX1_isLevelled 8 [some (.ref 80), some (.ref q), some (.int (nI k)), none, none] [] (zWd I (va_up A 81 D) t) (fun v w1 => ∃ x, v = some (.int x) ∧ x = zB b ∧ ∃ D, w1 = zWd I (va_up A 81 D) t)) ?_ (fun a ha b h1 h2 => ?_)
  · refine bX1_isLevelled_8 _ _ _ (zvRd h.1.ob (v_size hO) (by decide) ?_)
    rw [if_pos (Int32.le_refl _)]
    exact ⟨_, rfl, rfl, D, rfl⟩
  · refine bX1_isLevelled_8 _ _ _ (zvRd h.1.ob (v_size hO) (by decide) ?_)
    rw [zi_le (by omega) (by omega), if_neg (by omega)]
    refine zvRd h.1.ob (v_coversOf hO (by omega)) (by decide) ?_
    have hz := zco_lt n u a
    generalize hp : (fun b => !zcv n u a b || decide (zde u n b = zde u n a + 1)) = p at *
    have inner := zloopA (n := n) (p := p) (R := fun k c => ((c = true → zRn X 4 0 0 MX1_isLevelled 8 [some (.ref 80), some (.ref q), some (.int (nI (a + 1))), none, none] [] (zWd I (va_up A 81 D) t) (fun v w1 => ∃ x, v = some (.int x) ∧ x = zB b ∧ ∃ D, w1 = zWd I (va_up A 81 D) t)) → (c = false → b = false) → zRn X 4 0 0 MX1_isLevelled 25 [some (.ref 80), some (.ref q), some (.int (nI a)), some (.int (nI (zco n u a))), some (.int (nI k))] [] (zWd I (va_up A 81 D) t) (fun v w1 => ∃ x, v = some (.int x) ∧ x = zB b ∧ ∃ D, w1 = zWd I (va_up A 81 D) t))) (fun g1 g2 => by
      refine bX1_isLevelled_25 _ _ _ _ _ (zvRd h.1.ob (v_size hO) (by decide) ?_)
      rw [if_pos (Int32.le_refl _), nI_1]
      exact g1 rfl) (fun k hk c e1 e2 g1 g2 => by
      refine bX1_isLevelled_25 _ _ _ _ _ (zvRd h.1.ob (v_size hO) (by decide) ?_)
      rw [zi_le (by omega) (by omega), if_neg (by omega), zi_has (by omega) (by omega)]
      have hbit := zco_bit h.2.1 a k
      have d1 := zde_n (zTr.u h.2.1) hk
      have d2 := zde_n (zTr.u h.2.1) ha
      by_cases hb : (zco n u a).testBit k = true
      · rw [if_pos hb]
        refine ⟨_, fr_80_0.rd, _, (ar_81.rd (by omega)).trans (by rw [zup_eq, hD k hk]), _, fr_80_0.rd, _, (ar_81.rd (by omega)).trans (by rw [zup_eq, hD a ha]), ?_⟩
        show if nI (zde u n k) = nI (zde u n a) + 1 then _ else _
        rw [nI_1, zi_eq (by omega) (by omega)]
        by_cases hd : zde u n k = zde u n a + 1
        · rw [if_pos hd]
          refine bX1_isLevelled_64 _ _ _ _ _ ?_
          rw [nI_1]
          exact e1 (by rw [← hp]; simp [hd]) g1 g2
        · rw [if_neg hd]
          have : c = false := e2 (by rw [← hp]; simp [hd]; rw [← hbit]; exact hb)
          rw [g2 this]
          exact ⟨_, rfl, rfl, D, rfl⟩
      · rw [if_neg hb]
        refine bX1_isLevelled_64 _ _ _ _ _ ?_
        rw [nI_1]
        refine e1 ?_ g1 g2
        rw [← hp]
        simp only [Bool.or_eq_true, Bool.not_eq_true']
        left
        rw [← hbit]
        simpa using hb)
    exact inner h1 h2
end ZC1
