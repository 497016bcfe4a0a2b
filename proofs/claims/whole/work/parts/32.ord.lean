/-! ===== an order in the world: n things, u b the set of those below b ===== -/
def zB (c : Bool) : Int32 := if c then 1 else 0
theorem zB0 (c : Bool) : (zB c = 0) = (c = false) := by cases c <;> simp [zB]
theorem zB_ok (c : Bool) : zBool (zB c) := by cases c <;> simp [zB, zBool]
theorem zB_if {α : Sort _} (c : Bool) (a b : α) : (if zB c = 0 then a else b) = if c then b else a := by cases c <;> simp [zB]
theorem zB_ifP {α : Sort _} (c : Prop) [Decidable c] (a b : α) : (if zB (decide c) = 0 then a else b) = if c then b else a := by by_cases h : c <;> simp [zB, h]
theorem zif {α : Sort _} {c d : Prop} [Decidable c] [Decidable d] (h : c ↔ d) (a b : α) : (if c then a else b) = if d then a else b := by
  by_cases hd : d
  · rw [if_pos hd, if_pos (h.mpr hd)]
  · rw [if_neg hd, if_neg (fun q => hd (h.mp q))]
theorem zi_has {α : Sort _} {s k : Nat} {a b : α} (hs : s < 2 ^ 31) (hk : k < 32) : (if ((nI s >>> (nI k &&& 31)) &&& 1) = 1 then a else b) = if s.testBit k = true then a else b := zif (by rw [zb_has hs hk]) a b
theorem zi_no {α : Sort _} {s k : Nat} {a b : α} (hs : s < 2 ^ 31) (hk : k < 32) : (if ((nI s >>> (nI k &&& 31)) &&& 1) = 0 then a else b) = if s.testBit k = true then b else a := by
  rw [zif (show _ ↔ s.testBit k = false by rw [zb_no hs hk])]
  cases s.testBit k <;> simp
theorem zi_le {α : Sort _} {x y : Nat} {a b : α} (hx : x < 2 ^ 31) (hy : y < 2 ^ 31) : (if nI x ≤ nI y then a else b) = if x ≤ y then a else b := zif (nI_leI hx hy) a b
theorem zi_lt {α : Sort _} {x y : Nat} {a b : α} (hx : x < 2 ^ 31) (hy : y < 2 ^ 31) : (if nI x < nI y then a else b) = if x < y then a else b := zif (nI_ltI hx hy) a b
theorem zi_eq {α : Sort _} {x y : Nat} {a b : α} (hx : x < 2 ^ 31) (hy : y < 2 ^ 31) : (if nI x = nI y then a else b) = if x = y then a else b := zif (nI_eq hx hy) a b
theorem zi_0 {α : Sort _} {x : Nat} {a b : α} (hx : x < 2 ^ 31) : (if nI x = 0 then a else b) = if x = 0 then a else b := zif (by rw [zb_0 hx]) a b
theorem zdown {P : Nat → Prop} {n : Nat} (h0 : P n) (hs : ∀ k, k < n → P (k + 1) → P k) : ∀ k, k ≤ n → P k := by
  intro k hk
  obtain ⟨j, rfl⟩ : ∃ j, n = k + j := ⟨n - k, by omega⟩
  clear hk
  induction j generalizing k with
  | zero => exact h0
  | succ j ih =>
    refine hs k (by omega) (ih (k + 1) (by rw [show k + 1 + j = k + (j + 1) by omega]; exact h0) (fun i hi => hs i (by omega)))
/-- the set of those above a -/
def zov (n : Nat) (u : Nat → Nat) (a : Nat) : Nat := zmk n (fun b => (u b).testBit a)
/-- a below b -/
abbrev zlt (u : Nat → Nat) (a b : Nat) : Bool := (u b).testBit a
/-- n things in a strict order -/
def zPo (n : Nat) (u : Nat → Nat) : Prop := n ≤ 8 ∧ (∀ b, u b < 2 ^ n) ∧ (∀ b, n ≤ b → u b = 0) ∧ (∀ a, zlt u a a = false) ∧ ∀ a b c, zlt u a b = true → zlt u b c = true → zlt u a c = true
theorem zPo.lt {n : Nat} {u : Nat → Nat} (h : zPo n u) {a b : Nat} (hab : zlt u a b = true) : a < n ∧ b < n := by
  refine ⟨?_, ?_⟩
  · rcases Nat.lt_or_ge a n with q | q
    · exact q
    · have := zbit_hi (h.2.1 b) q
      rw [show zlt u a b = (u b).testBit a from rfl, this] at hab
      cases hab
  · rcases Nat.lt_or_ge b n with q | q
    · exact q
    · rw [show zlt u a b = (u b).testBit a from rfl, h.2.2.1 b q] at hab
      simp at hab
theorem z28 {n : Nat} (h : n ≤ 8) : 2 ^ n ≤ 256 := by
  have := Nat.pow_le_pow_right (n := 2) (by decide) h
  simpa using this
theorem zPo.u31 {n : Nat} {u : Nat → Nat} (h : zPo n u) (b : Nat) : u b < 256 := Nat.lt_of_lt_of_le (h.2.1 b) (z28 h.1)
theorem zov_lt (n : Nat) (u : Nat → Nat) (a : Nat) : zov n u a < 2 ^ n := zmk_lt _ _
theorem zov_bit {n : Nat} {u : Nat → Nat} (h : zPo n u) (a b : Nat) : (zov n u a).testBit b = zlt u a b := by
  unfold zov
  rw [zmk_bit]
  by_cases hb : b < n
  · simp [hb]
  · have h0 : u b = 0 := h.2.2.1 b (by omega)
    simp [hb, h0, zlt]
theorem zov_hi {n : Nat} {u : Nat → Nat} (h : zPo n u) {a : Nat} (ha : n ≤ a) : zov n u a = 0 := zext (fun i => by
  rw [zov_bit h]
  have := zbit_hi (h.2.1 i) ha
  simp [this])
/-- those free of a -/
def zfr (n : Nat) (u : Nat → Nat) (a : Nat) : Nat := zmk n (fun b => !decide (b = a) && !zlt u a b && !zlt u b a)
/-- the order at place q -/
def zOR (I A : zF2) (q n : Nat) (u : Nat → Nat) : Prop := zOq q ∧ zPo n u ∧ I q 3 = nI n ∧ (∀ b, b < n → A (q + 1) b = nI (u b)) ∧ ∀ a, a < n → A (q + 2) a = nI (zov n u a)
section ZO
variable {X : zX} {I A : zF2} {t : zW} {q n : Nat} {u : Nat → Nat}
theorem zOR.sz (h : zOR I A q n u) : zfI (zWd I A t) q 5 3 = some (nI n) := by rw [h.1.sz.rd, h.2.2.1]
theorem zOR.rb (h : zOR I A q n u) {b : Nat} (hb : b < n) : zaI (zWd I A t) (q + 1) (nI b) = some (nI (u b)) := by rw [h.1.bA.rd (by have := h.2.1.1; omega), h.2.2.2.1 b hb]
theorem zOR.ra (h : zOR I A q n u) {b : Nat} (hb : b < n) : zaI (zWd I A t) (q + 2) (nI b) = some (nI (zov n u b)) := by rw [h.1.aA.rd (by have := h.2.1.1; omega), h.2.2.2.2 b hb]
theorem zOR.fb (h : zOR I A q n u) : zfR (zWd I A t) q 5 0 = some (q + 1) := h.1.bl.rd
theorem zOR.fa (h : zOR I A q n u) : zfR (zWd I A t) q 5 1 = some (q + 2) := h.1.ab.rd
theorem zOR.n8 (h : zOR I A q n u) : n ≤ 8 := h.2.1.1
theorem v_size (h : zOR I A q n u) : zRd X 0 MX5_size [.ref q] (zWd I A t) (nI n) := eX5_size _ (bX5_size_0 _ ⟨_, h.sz, rfl, rfl⟩)
theorem v_has (h : zOR I A q n u) (x : Int32) : zRd X 0 MX5_has [.ref q, .int x] (zWd I A t) (zB (decide (¬ x < 0 ∧ ¬ nI n ≤ x))) := by
  refine eX5_has _ _ (bX5_has_0 _ _ ?_)
  by_cases h1 : x < 0
  · rw [if_pos h1]
    exact ⟨by simp [zB, h1], rfl⟩
  · rw [if_neg h1]
    refine ⟨_, h.sz, ?_⟩
    by_cases h2 : nI n ≤ x
    · rw [if_pos h2]
      exact ⟨by simp [zB, h2], rfl⟩
    · rw [if_neg h2]
      exact ⟨by simp [zB, h1, h2], rfl⟩
theorem v_hasN (h : zOR I A q n u) {a : Nat} (ha : a < 2 ^ 31) : zRd X 0 MX5_has [.ref q, .int (nI a)] (zWd I A t) (zB (decide (a < n))) := by
  have h1 := v_has (X := X) (t := t) h (nI a)
  have e : decide (¬ nI a < 0 ∧ ¬ nI n ≤ nI a) = decide (a < n) := by
    have := h.n8
    have h2 := nI_pos ha
    have h3 : nI n ≤ nI a ↔ n ≤ a := nI_leI (by omega) ha
    simp [h2, h3]
  rw [e] at h1
  exact h1
theorem v_all (h : zOR I A q n u) : zRd X 0 MX5_all [.ref q] (zWd I A t) (nI (2 ^ n - 1)) := by
  refine eX5_all _ (bX5_all_0 _ ⟨_, h.sz, ?_, rfl⟩)
  have := h.n8
  rw [zb_1 n (by omega)]
  show some (Value.int (nI (2 ^ n) - nI 1)) = _
  rw [pk_sub (Nat.one_le_two_pow)]
theorem v_belowOf (h : zOR I A q n u) {a : Nat} (ha : a < 2 ^ 31) : zRd X 1 MX5_belowOf [.ref q, .int (nI a)] (zWd I A t) (nI (u a)) := by
  refine eX5_belowOf _ _ (bX5_belowOf_0 _ _ (zvRd h.1.ob (v_hasN h ha) (by decide) ?_))
  rw [zB_ifP]
  by_cases h1 : a < n
  · rw [if_pos h1]
    exact ⟨_, h.fb, _, h.rb h1, rfl, rfl⟩
  · rw [if_neg h1]
    rw [h.2.1.2.2.1 a (by omega)]
    exact ⟨rfl, rfl⟩
theorem v_aboveOf (h : zOR I A q n u) {a : Nat} (ha : a < 2 ^ 31) : zRd X 1 MX5_aboveOf [.ref q, .int (nI a)] (zWd I A t) (nI (zov n u a)) := by
  refine eX5_aboveOf _ _ (bX5_aboveOf_0 _ _ (zvRd h.1.ob (v_hasN h ha) (by decide) ?_))
  rw [zB_ifP]
  by_cases h1 : a < n
  · rw [if_pos h1]
    exact ⟨_, h.fa, _, h.ra h1, rfl, rfl⟩
  · rw [if_neg h1]
    rw [zov_hi h.2.1 (by omega)]
    exact ⟨rfl, rfl⟩
theorem zfr_bit (h : zPo n u) (a b : Nat) (ha : a < n) : (zfr n u a).testBit b = (decide (b < n) && !decide (b = a) && !zlt u a b && !zlt u b a) := by
  unfold zfr
  rw [zmk_bit]
  simp only [Bool.and_assoc]
theorem zfr_lt (n : Nat) (u : Nat → Nat) (a : Nat) : zfr n u a < 2 ^ n := zmk_lt _ _
theorem v_freeOf (h : zOR I A q n u) {a : Nat} (ha : a < n) : zRd X 1 MX5_freeOf [.ref q, .int (nI a)] (zWd I A t) (nI (zfr n u a)) := by
  have h8 := h.n8
  refine eX5_freeOf _ _ (bX5_freeOf_0 _ _ (zvRd h.1.ob (v_hasN h (by omega)) (by decide) ?_))
  rw [zB_ifP, if_pos ha]
  refine zvRd h.1.ob (v_all h) (by decide) ?_
  refine ⟨_, h.fb, _, h.rb ha, _, h.fa, _, h.ra ha, ?_, rfl⟩
  rw [zb_1 a (by omega), zb_or, zb_or, zb_df]
  congr 2
  congr 1
  refine zext (fun i => ?_)
  rw [zdf_bit, zfr_bit h.2.1 _ _ ha, Nat.testBit_or, Nat.testBit_or, zov_bit h.2.1, Nat.testBit_two_pow_sub_one, Nat.testBit_two_pow]
  have e : decide (a = i) = decide (i = a) := by simp [eq_comm]
  rw [e]
  cases decide (i < n) <;> cases decide (i = a) <;> cases zlt u a i <;> cases hh : zlt u i a <;> simp_all
theorem v_under (h : zOR I A q n u) {a b : Nat} (ha : a < 32) (hb : b < 2 ^ 31) : zRd X 2 MX5_under [.ref q, .int (nI a), .int (nI b)] (zWd I A t) (zB (zlt u a b)) := by
  refine eX5_under _ _ _ (bX5_under_0 _ _ _ (zvRd h.1.ob (v_hasN h (by omega)) (by decide) ?_))
  rw [zB_ifP]
  by_cases h1 : a < n
  · rw [if_pos h1]
    refine zvRd h.1.ob (v_hasN h hb) (by decide) ?_
    rw [zB_ifP]
    by_cases h2 : b < n
    · rw [if_pos h2]
      refine ⟨_, h.fb, _, h.rb h2, ?_⟩
      have := h.2.1.u31 b
      rw [zi_has (by omega) (by omega)]
      show if zlt u a b = true then _ else _
      cases zlt u a b <;> exact ⟨rfl, rfl⟩
    · rw [if_neg h2]
      have : zlt u a b = false := by
        show (u b).testBit a = false
        rw [h.2.1.2.2.1 b (by omega)]
        exact Nat.zero_testBit a
      rw [this]
      exact ⟨rfl, rfl⟩
  · rw [if_neg h1]
    have : zlt u a b = false := zbit_hi (h.2.1.2.1 b) (by omega)
    rw [this]
    exact ⟨rfl, rfl⟩
end ZO
