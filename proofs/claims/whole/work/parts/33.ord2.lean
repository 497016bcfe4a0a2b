/-! ===== Order's loops ===== -/
def zit {α : Type} (f : Nat → α → α) (a : α) : Nat → α
  | 0 => a
  | k + 1 => f k (zit f a k)
/-- a set is a beginning: with each the things below it -/
def zid (n : Nat) (u : Nat → Nat) (s : Nat) : Bool := decide (∀ a, a < n → s.testBit a = true → zdf (u a) s = 0)
/-- a thing can follow behind a set -/
def zcf (n : Nat) (u : Nat → Nat) (s a : Nat) : Bool := decide (a < n) && !s.testBit a && decide (zdf (u a) s = 0)
def zcbF (u : Nat → Nat) (b : Nat) : Nat → Nat := zit (fun c x => if zlt u c b then zdf x (u c) else x) (u b)
def zcoF (n : Nat) (u : Nat → Nat) (a : Nat) : Nat → Nat := zit (fun c x => if zlt u a c then zdf x (zov n u c) else x) (zov n u a)
/-- b covers a -/
def zcv (n : Nat) (u : Nat → Nat) (a b : Nat) : Bool := zlt u a b && decide (zov n u a &&& u b = 0)
/-- those that b covers; those that cover a -/
def zcb (n : Nat) (u : Nat → Nat) (b : Nat) : Nat := zmk n (fun a => zcv n u a b)
def zco (n : Nat) (u : Nat → Nat) (a : Nat) : Nat := zmk n (fun b => zcv n u a b)
def ztw (n : Nat) (u : Nat → Nat) : Nat := zit (fun b x => x + zpc (u b)) 0 n
def zcs (n : Nat) (u : Nat → Nat) : Nat := zit (fun b x => x + zpc (zcb n u b)) 0 n
theorem zdf_lt {a b n : Nat} (h : a < 2 ^ n) : zdf a b < 2 ^ n := zlt_of (fun i hi => by rw [zdf_bit, zbit_hi h hi]; rfl)
theorem zcbF_bit (u : Nat → Nat) (b i : Nat) : ∀ k, (zcbF u b k).testBit i = true ↔ (zlt u i b = true ∧ ∀ c, c < k → zlt u c b = true → zlt u i c = false)
  | 0 => by simp [zcbF, zit]
  | k + 1 => by
    have ih := zcbF_bit u b i k
    have e : zcbF u b (k + 1) = if zlt u k b then zdf (zcbF u b k) (u k) else zcbF u b k := rfl
    rw [e]
    constructor
    · intro h
      split at h
      · rename_i hk
        rw [zdf_bit, Bool.and_eq_true] at h
        obtain ⟨h1, h2⟩ := h
        obtain ⟨h3, h4⟩ := ih.mp h1
        refine ⟨h3, fun c hc hcb => ?_⟩
        rcases Nat.lt_or_ge c k with q | q
        · exact h4 c q hcb
        · have : c = k := by omega
          subst this
          simpa using h2
      · rename_i hk
        obtain ⟨h3, h4⟩ := ih.mp h
        refine ⟨h3, fun c hc hcb => ?_⟩
        rcases Nat.lt_or_ge c k with q | q
        · exact h4 c q hcb
        · have : c = k := by omega
          subst this
          exact absurd hcb hk
    · rintro ⟨h1, h2⟩
      have h3 := ih.mpr ⟨h1, fun c hc => h2 c (by omega)⟩
      split
      · rename_i hk
        rw [zdf_bit, h3]
        have := h2 k (by omega) hk
        simpa using this
      · exact h3
theorem zcoF_bit {n : Nat} {u : Nat → Nat} (h : zPo n u) (a i : Nat) : ∀ k, (zcoF n u a k).testBit i = true ↔ (zlt u a i = true ∧ ∀ c, c < k → zlt u a c = true → zlt u c i = false)
  | 0 => by simp [zcoF, zit, zov_bit h]
  | k + 1 => by
    have ih := zcoF_bit h a i k
    have e : zcoF n u a (k + 1) = if zlt u a k then zdf (zcoF n u a k) (zov n u k) else zcoF n u a k := rfl
    rw [e]
    constructor
    · intro h1
      split at h1
      · rename_i hk
        rw [zdf_bit, Bool.and_eq_true, zov_bit h] at h1
        obtain ⟨h1, h2⟩ := h1
        obtain ⟨h3, h4⟩ := ih.mp h1
        refine ⟨h3, fun c hc hcb => ?_⟩
        rcases Nat.lt_or_ge c k with q | q
        · exact h4 c q hcb
        · have : c = k := by omega
          subst this
          simpa using h2
      · rename_i hk
        obtain ⟨h3, h4⟩ := ih.mp h1
        refine ⟨h3, fun c hc hcb => ?_⟩
        rcases Nat.lt_or_ge c k with q | q
        · exact h4 c q hcb
        · have : c = k := by omega
          subst this
          exact absurd hcb hk
    · rintro ⟨h1, h2⟩
      have h3 := ih.mpr ⟨h1, fun c hc => h2 c (by omega)⟩
      split
      · rename_i hk
        rw [zdf_bit, h3, zov_bit h]
        have := h2 k (by omega) hk
        simpa using this
      · exact h3
theorem zcv_iff {n : Nat} {u : Nat → Nat} (h : zPo n u) (a b : Nat) : zcv n u a b = true ↔ (zlt u a b = true ∧ ∀ c, zlt u a c = true → zlt u c b = false) := by
  unfold zcv
  rw [Bool.and_eq_true, decide_eq_true_eq, zeq0]
  constructor
  · rintro ⟨h1, h2⟩
    refine ⟨h1, fun c hc => ?_⟩
    have := h2 c
    rw [Nat.testBit_and, zov_bit h, hc] at this
    simpa using this
  · rintro ⟨h1, h2⟩
    refine ⟨h1, fun c => ?_⟩
    rw [Nat.testBit_and, zov_bit h]
    cases hc : zlt u a c
    · rfl
    · simpa using h2 c hc
theorem zcv_lt {n : Nat} {u : Nat → Nat} (h : zPo n u) {a b : Nat} (hc : zcv n u a b = true) : a < n ∧ b < n := h.lt ((zcv_iff h a b).mp hc).1
theorem zcb_bit {n : Nat} {u : Nat → Nat} (h : zPo n u) (a b : Nat) : (zcb n u b).testBit a = zcv n u a b := by
  unfold zcb
  rw [zmk_bit]
  cases hc : zcv n u a b
  · simp
  · simp [(zcv_lt h hc).1]
theorem zco_bit {n : Nat} {u : Nat → Nat} (h : zPo n u) (a b : Nat) : (zco n u a).testBit b = zcv n u a b := by
  unfold zco
  rw [zmk_bit]
  cases hc : zcv n u a b
  · simp
  · simp [(zcv_lt h hc).2]
theorem zcbF_eq {n : Nat} {u : Nat → Nat} (h : zPo n u) (b : Nat) : zcbF u b n = zcb n u b := zext (fun i => by
  rw [zcb_bit h, Bool.eq_iff_iff, zcbF_bit, zcv_iff h]
  constructor
  · rintro ⟨h1, h2⟩
    refine ⟨h1, fun c hc => ?_⟩
    cases hcb : zlt u c b
    · rfl
    · have := h2 c (h.lt hc).2 hcb
      rw [this] at hc
      cases hc
  · rintro ⟨h1, h2⟩
    refine ⟨h1, fun c hc hcb => ?_⟩
    cases hic : zlt u i c
    · rfl
    · rw [h2 c hic] at hcb
      cases hcb)
theorem zcoF_eq {n : Nat} {u : Nat → Nat} (h : zPo n u) (a : Nat) : zcoF n u a n = zco n u a := zext (fun i => by
  rw [zco_bit h, Bool.eq_iff_iff, zcoF_bit h, zcv_iff h]
  constructor
  · rintro ⟨h1, h2⟩
    exact ⟨h1, fun c hc => h2 c (h.lt hc).2 hc⟩
  · rintro ⟨h1, h2⟩
    exact ⟨h1, fun c hc hcb => h2 c hcb⟩)
theorem zcb_lt (n : Nat) (u : Nat → Nat) (b : Nat) : zcb n u b < 2 ^ n := zmk_lt _ _
theorem zco_lt (n : Nat) (u : Nat → Nat) (b : Nat) : zco n u b < 2 ^ n := zmk_lt _ _
section ZO
variable {X : zX} {I A : zF2} {t : zW} {q n : Nat} {u : Nat → Nat}
theorem v_coveredBy (h : zOR I A q n u) {b : Nat} (hb : b < 2 ^ 31) : zRd X 3 MX5_coveredBy [.ref q, .int (nI b)] (zWd I A t) (nI (zcb n u b)) := by
  have h8 := h.n8
  refine eX5_coveredBy _ _ (bX5_coveredBy_0 _ _ (zvRd h.1.ob (v_belowOf h hb) (by decide) ?_))
  refine zdown (P := fun k => zRn X 3 0 0 MX5_coveredBy 8 [some (.ref q), some (.int (nI b)), some (.int (nI (zcbF u b k))), some (.int (nI k))] [] (zWd I A t) _) (n := n) ?_ (fun k hk ih => ?_) 0 (Nat.zero_le _)
  · refine bX5_coveredBy_8 _ _ _ _ ⟨_, h.sz, ?_⟩
    rw [if_pos (Int32.le_refl _), zcbF_eq h.2.1]
    exact ⟨rfl, rfl⟩
  · refine bX5_coveredBy_8 _ _ _ _ ⟨_, h.sz, ?_⟩
    rw [zi_le (by omega) (by omega), if_neg (by omega)]
    refine zvRd h.1.ob (v_under h (by omega) hb) (by decide) ?_
    have e : zcbF u b (k + 1) = if zlt u k b then zdf (zcbF u b k) (u k) else zcbF u b k := rfl
    rw [zB_if]
    by_cases hc : zlt u k b = true
    · rw [if_pos hc]
      refine ⟨_, h.fb, _, h.rb hk, bX5_coveredBy_36 _ _ _ _ ?_⟩
      rw [e, if_pos hc] at ih
      rw [zb_df, nI_1]
      exact ih
    · rw [if_neg hc]
      refine bX5_coveredBy_36 _ _ _ _ ?_
      rw [e, if_neg hc] at ih
      rw [nI_1]
      exact ih
theorem v_coversOf (h : zOR I A q n u) {b : Nat} (hb : b < 32) : zRd X 3 MX5_coversOf [.ref q, .int (nI b)] (zWd I A t) (nI (zco n u b)) := by
  have h8 := h.n8
  refine eX5_coversOf _ _ (bX5_coversOf_0 _ _ (zvRd h.1.ob (v_aboveOf h (by omega)) (by decide) ?_))
  refine zdown (P := fun k => zRn X 3 0 0 MX5_coversOf 8 [some (.ref q), some (.int (nI b)), some (.int (nI (zcoF n u b k))), some (.int (nI k))] [] (zWd I A t) _) (n := n) ?_ (fun k hk ih => ?_) 0 (Nat.zero_le _)
  · refine bX5_coversOf_8 _ _ _ _ ⟨_, h.sz, ?_⟩
    rw [if_pos (Int32.le_refl _), zcoF_eq h.2.1]
    exact ⟨rfl, rfl⟩
  · refine bX5_coversOf_8 _ _ _ _ ⟨_, h.sz, ?_⟩
    rw [zi_le (by omega) (by omega), if_neg (by omega)]
    refine zvRd h.1.ob (v_under h (by omega) (by omega)) (by decide) ?_
    have e : zcoF n u b (k + 1) = if zlt u b k then zdf (zcoF n u b k) (zov n u k) else zcoF n u b k := rfl
    rw [zB_if]
    by_cases hc : zlt u b k = true
    · rw [if_pos hc]
      refine ⟨_, h.fa, _, h.ra hk, bX5_coversOf_36 _ _ _ _ ?_⟩
      rw [e, if_pos hc] at ih
      rw [zb_df, nI_1]
      exact ih
    · rw [if_neg hc]
      refine bX5_coversOf_36 _ _ _ _ ?_
      rw [e, if_neg hc] at ih
      rw [nI_1]
      exact ih
theorem v_twos (h : zOR I A q n u) : zRd X 1 MX5_twos [.ref q] (zWd I A t) (nI (ztw n u)) := by
  have h8 := h.n8
  refine eX5_twos _ (bX5_twos_0 _ ?_)
  refine zdown (P := fun k => zRn X 1 0 0 MX5_twos 4 [some (.ref q), some (.int (nI (ztw k u))), some (.int (nI k))] [] (zWd I A t) _) (n := n) ?_ (fun k hk ih => ?_) 0 (Nat.zero_le _)
  · refine bX5_twos_4 _ _ _ ⟨_, h.sz, ?_⟩
    rw [if_pos (Int32.le_refl _)]
    exact ⟨rfl, rfl⟩
  · refine bX5_twos_4 _ _ _ ⟨_, h.sz, ?_⟩
    rw [zi_le (by omega) (by omega), if_neg (by omega)]
    refine ⟨_, h.fb, _, h.rb hk, zcRd (v_bc (h.2.1.u31 k)) (by decide) ?_⟩
    rw [nI_1, nI_add]
    exact ih
theorem v_freeTwos (h : zOR I A q n u) (h1 : 1 ≤ n) : zRd X 2 MX5_freeTwos [.ref q] (zWd I A t) (nI (n * (n - 1) / 2) - nI (ztw n u)) := by
  have h8 := h.n8
  refine eX5_freeTwos _ (bX5_freeTwos_0 _ ⟨_, h.sz, _, h.sz, zvRd h.1.ob (v_twos h) (by decide) ⟨?_, rfl⟩⟩)
  have e : n * (n - 1) ≤ 8 * 7 := Nat.mul_le_mul h8 (by omega)
  show some (Value.int (nI n * (nI n - nI 1) / nI 2 - _)) = _
  rw [pk_sub h1, pk_mul, pk_div (by omega) (by decide) (by decide)]
theorem v_covers (h : zOR I A q n u) : zRd X 4 MX5_covers [.ref q] (zWd I A t) (nI (zcs n u)) := by
  have h8 := h.n8
  refine eX5_covers _ (bX5_covers_0 _ ?_)
  refine zdown (P := fun k => zRn X 4 0 0 MX5_covers 4 [some (.ref q), some (.int (nI (zit (fun b x => x + zpc (zcb n u b)) 0 k))), some (.int (nI k))] [] (zWd I A t) _) (n := n) ?_ (fun k hk ih => ?_) 0 (Nat.zero_le _)
  · refine bX5_covers_4 _ _ _ ⟨_, h.sz, ?_⟩
    rw [if_pos (Int32.le_refl _)]
    exact ⟨rfl, rfl⟩
  · refine bX5_covers_4 _ _ _ ⟨_, h.sz, ?_⟩
    rw [zi_le (by omega) (by omega), if_neg (by omega)]
    refine zvRd h.1.ob (v_coveredBy h (by omega)) (by decide) (zcRd (v_bc (Nat.lt_of_lt_of_le (zcb_lt n u k) (z28 h8))) (by decide) ?_)
    rw [nI_1, nI_add]
    exact ih
theorem v_isIdeal (h : zOR I A q n u) {s : Nat} (hs : s < 2 ^ 31) : zRd X 0 MX5_isIdeal [.ref q, .int (nI s)] (zWd I A t) (zB (zid n u s)) := by
  have h8 := h.n8
  refine eX5_isIdeal _ _ (bX5_isIdeal_0 _ _ ?_)
  refine zdown (P := fun k => (∀ a, a < k → s.testBit a = true → zdf (u a) s = 0) → zRn X 0 0 0 MX5_isIdeal 2 [some (.ref q), some (.int (nI s)), some (.int (nI k))] [] (zWd I A t) _) (n := n) (fun hk => ?_) (fun k hk ih hp => ?_) 0 (Nat.zero_le _) (fun a ha => by omega)
  · refine bX5_isIdeal_2 _ _ _ ⟨_, h.sz, ?_⟩
    rw [if_pos (Int32.le_refl _)]
    have e : zid n u s = true := decide_eq_true hk
    rw [e]
    exact ⟨rfl, rfl⟩
  · refine bX5_isIdeal_2 _ _ _ ⟨_, h.sz, ?_⟩
    rw [zi_le (by omega) (by omega), if_neg (by omega), zi_has hs (by omega)]
    have hu := h.2.1.u31 k
    by_cases hb : s.testBit k = true
    · rw [if_pos hb]
      refine ⟨_, h.fb, _, h.rb hk, ?_⟩
      have hz : zdf (u k) s < 2 ^ 8 := zdf_lt hu
      rw [zb_df, zi_0 (by omega)]
      by_cases h0 : zdf (u k) s = 0
      · rw [if_pos h0]
        refine bX5_isIdeal_34 _ _ _ ?_
        rw [nI_1]
        refine ih (fun a ha => ?_)
        rcases Nat.lt_or_ge a k with z | z
        · exact hp a z
        · have : a = k := by omega
          subst this
          exact fun _ => h0
      · rw [if_neg h0]
        have e : zid n u s = false := decide_eq_false (fun q => h0 (q k hk hb))
        rw [e]
        exact ⟨rfl, rfl⟩
    · rw [if_neg hb]
      refine bX5_isIdeal_34 _ _ _ ?_
      rw [nI_1]
      refine ih (fun a ha => ?_)
      rcases Nat.lt_or_ge a k with z | z
      · exact hp a z
      · have : a = k := by omega
        subst this
        exact fun q => absurd q hb
theorem v_canFollow (h : zOR I A q n u) {s a : Nat} (hs : s < 2 ^ 31) (ha : a < 32) : zRd X 1 MX5_canFollow [.ref q, .int (nI s), .int (nI a)] (zWd I A t) (zB (zcf n u s a)) := by
  have h8 := h.n8
  refine eX5_canFollow _ _ _ (bX5_canFollow_0 _ _ _ (zvRd h.1.ob (v_hasN h (by omega)) (by decide) ?_))
  rw [zB_ifP]
  unfold zcf
  by_cases h1 : a < n
  · rw [if_pos h1, zi_no hs (by omega)]
    by_cases h2 : s.testBit a = true
    · rw [if_pos h2]
      exact ⟨by simp [h2, zB], rfl⟩
    · rw [if_neg h2]
      refine ⟨_, h.fb, _, h.rb h1, ?_⟩
      have hz : zdf (u a) s < 2 ^ 8 := zdf_lt (h.2.1.u31 a)
      rw [zb_df, zi_0 (by omega)]
      by_cases h0 : zdf (u a) s = 0
      · rw [if_pos h0]
        exact ⟨by simp [h1, h2, h0, zB], rfl⟩
      · rw [if_neg h0]
        exact ⟨by simp [h0, zB], rfl⟩
  · rw [if_neg h1]
    exact ⟨by simp [h1, zB], rfl⟩
end ZO
