/-! ===== how many lines: F, by the sets that they begin with; G, behind them ===== -/
def zsm (n : Nat) (g : Nat → Nat) : Nat := zit (fun a x => x + g a) 0 n
theorem zsm_s (n : Nat) (g : Nat → Nat) : zsm (n + 1) g = zsm n g + g n := rfl
theorem zsm_cong {g g' : Nat → Nat} : ∀ {n : Nat}, (∀ j, j < n → g j = g' j) → zsm n g = zsm n g'
  | 0, _ => rfl
  | n + 1, h => by rw [zsm_s, zsm_s, zsm_cong (fun j hj => h j (by omega)), h n (by omega)]
theorem zsm_le {g g' : Nat → Nat} : ∀ {n : Nat}, (∀ j, j < n → g j ≤ g' j) → zsm n g ≤ zsm n g'
  | 0, _ => Nat.le_refl _
  | n + 1, h => by
    rw [zsm_s, zsm_s]
    have h1 := zsm_le (g := g) (g' := g') (n := n) (fun j hj => h j (by omega))
    have h2 := h n (by omega)
    omega
theorem zsm_bd {g : Nat → Nat} {c : Nat} : ∀ {n : Nat}, (∀ j, j < n → g j ≤ c) → zsm n g ≤ n * c
  | 0, _ => Nat.zero_le _
  | n + 1, h => by
    rw [zsm_s, Nat.add_mul, Nat.one_mul]
    have h1 := zsm_bd (g := g) (c := c) (n := n) (fun j hj => h j (by omega))
    have h2 := h n (by omega)
    omega
theorem zsm_ge {g : Nat → Nat} : ∀ {n j : Nat}, j < n → g j ≤ zsm n g
  | 0, j, h => absurd h (Nat.not_lt_zero _)
  | n + 1, j, h => by
    rw [zsm_s]
    rcases Nat.lt_or_ge j n with q | q
    · have := zsm_ge (g := g) q
      omega
    · have : j = n := by omega
      subst this
      omega
theorem zsm_0 {g : Nat → Nat} : ∀ {n : Nat}, (∀ j, j < n → g j = 0) → zsm n g = 0
  | 0, _ => rfl
  | n + 1, h => by rw [zsm_s, zsm_0 (fun j hj => h j (by omega)), h n (by omega)]
theorem zsm_pos {g : Nat → Nat} {n : Nat} (h : 0 < zsm n g) : ∃ j, j < n ∧ 0 < g j := by
  apply Classical.byContradiction
  intro hn
  have := zsm_0 (g := g) (n := n) (fun j hj => by
    rcases Nat.eq_zero_or_pos (g j) with q | q
    · exact q
    · exact absurd ⟨j, hj, q⟩ hn)
  omega
theorem zsm_add (g g' : Nat → Nat) : ∀ n, zsm n (fun j => g j + g' j) = zsm n g + zsm n g'
  | 0 => rfl
  | n + 1 => by rw [zsm_s, zsm_s, zsm_s, zsm_add g g' n]; omega
theorem zsm_mul (g : Nat → Nat) (c : Nat) : ∀ n, zsm n (fun j => c * g j) = c * zsm n g
  | 0 => rfl
  | n + 1 => by rw [zsm_s, zsm_s, zsm_mul g c n, Nat.mul_add]
theorem zsm_swap (g : Nat → Nat → Nat) (m : Nat) : ∀ n, zsm n (fun i => zsm m (fun j => g i j)) = zsm m (fun j => zsm n (fun i => g i j))
  | 0 => (zsm_0 (fun _ _ => rfl)).symm
  | n + 1 => by
    rw [zsm_s, zsm_swap g m n, ← zsm_add]
    rfl
theorem zsm_split (g : Nat → Nat) (m : Nat) : ∀ n, zsm (m + n) g = zsm m g + zsm n (fun j => g (m + j))
  | 0 => rfl
  | n + 1 => by
    rw [show m + (n + 1) = m + n + 1 by omega, zsm_s, zsm_s, zsm_split g m n]
    omega
theorem zpa {n s : Nat} (hs : s < 2 ^ n) : 2 ^ n + s = 2 ^ n ||| s := by
  have := Nat.two_pow_add_eq_or_of_lt hs 1
  rw [Nat.mul_one] at this
  exact this
theorem zxor_lo {n s : Nat} (hs : s < 2 ^ n) : (2 ^ n + s) ^^^ 2 ^ n = s := zext (fun i => by
  rw [Nat.testBit_xor, Nat.testBit_two_pow, zpa hs, Nat.testBit_or, Nat.testBit_two_pow]
  by_cases h : n = i
  · subst h
    simp [zbit_hi hs (Nat.le_refl _)]
  · simp [h])
theorem zxor_hi {n s : Nat} (hs : s < 2 ^ n) : s ^^^ 2 ^ n = 2 ^ n + s := zext (fun i => by
  rw [Nat.testBit_xor, Nat.testBit_two_pow, zpa hs, Nat.testBit_or, Nat.testBit_two_pow]
  by_cases h : n = i
  · subst h
    simp [zbit_hi hs (Nat.le_refl _)]
  · simp [h])
theorem zxor_in {n s a : Nat} (hs : s < 2 ^ n) (ha : a < n) : (2 ^ n + s) ^^^ 2 ^ a = 2 ^ n + (s ^^^ 2 ^ a) := by
  have h2 : s ^^^ 2 ^ a < 2 ^ n := Nat.xor_lt_two_pow hs (Nat.pow_lt_pow_right (by decide) ha)
  refine zext (fun i => ?_)
  rw [Nat.testBit_xor, zpa hs, zpa h2, Nat.testBit_or, Nat.testBit_or, Nat.testBit_xor, Nat.testBit_two_pow, Nat.testBit_two_pow]
  by_cases h : n = i
  · subst h
    have : ¬ a = n := by omega
    simp [zbit_hi hs (Nat.le_refl _), this]
  · simp [h]
/-- the sum over all sets stays when one thing is put in or out of each -/
theorem zsm_xor {a : Nat} : ∀ {n : Nat} (g : Nat → Nat), a < n → zsm (2 ^ n) (fun s => g (s ^^^ 2 ^ a)) = zsm (2 ^ n) g
  | 0, g, h => absurd h (Nat.not_lt_zero _)
  | n + 1, g, h => by
    rw [Nat.pow_succ, Nat.mul_two, zsm_split, zsm_split g]
    rcases Nat.lt_or_ge a n with q | q
    · rw [zsm_xor g q]
      congr 1
      rw [zsm_cong (g' := fun j => g (2 ^ n + (j ^^^ 2 ^ a))) (fun j hj => by rw [zxor_in hj q])]
      exact zsm_xor (fun j => g (2 ^ n + j)) q
    · have : a = n := by omega
      subst this
      rw [zsm_cong (g' := fun j => g (2 ^ a + j)) (fun j hj => by rw [zxor_hi hj]), zsm_cong (g := fun j => g ((2 ^ a + j) ^^^ 2 ^ a)) (g' := g) (fun j hj => by rw [zxor_lo hj])]
      omega
/-- a can come last in s -/
def zla1 (u : Nat → Nat) (s a : Nat) : Bool := s.testBit a && decide (zdf (u a) (zdf s (2 ^ a)) = 0)
def zFq (n : Nat) (u : Nat → Nat) : Nat → Nat → Nat
  | 0, _ => 0
  | k + 1, s => (if s = 0 then 1 else 0) + zsm n (fun a => if zla1 u s a = true then zFq n u k (zdf s (2 ^ a)) else 0)
def zGq (n : Nat) (u : Nat → Nat) : Nat → Nat → Nat
  | 0, _ => 0
  | k + 1, s => (if s = 2 ^ n - 1 then 1 else 0) + zsm n (fun a => if zcf n u s a = true then zGq n u k (s ||| 2 ^ a) else 0)
def zFl (n : Nat) (u : Nat → Nat) (s : Nat) : Nat := zFq n u 9 s
def zGl (n : Nat) (u : Nat → Nat) (s : Nat) : Nat := zGq n u 9 s
theorem zpc_out : ∀ s, s < 256 → ∀ a, a < 8 → (s.testBit a = true → zpc (zdf s (2 ^ a)) + 1 = zpc s) ∧ (s.testBit a = false → zpc (s ||| 2 ^ a) = zpc s + 1) := by decide +kernel
theorem zFq_st {n : Nat} {u : Nat → Nat} (hn : n ≤ 8) : ∀ k s, s < 256 → zpc s < k → zFq n u k s = zFq n u (k + 1) s
  | 0, s, _, h => absurd h (Nat.not_lt_zero _)
  | k + 1, s, hs, h => by
    rw [zFq, zFq]
    congr 1
    refine zsm_cong (fun a ha => ?_)
    by_cases hc : zla1 u s a = true
    · rw [if_pos hc, if_pos hc]
      have hb : s.testBit a = true := by
        unfold zla1 at hc
        rw [Bool.and_eq_true] at hc
        exact hc.1
      have := (zpc_out s hs a (by omega)).1 hb
      exact zFq_st hn k _ (zdf_lt (n := 8) hs) (by omega)
    · rw [if_neg hc, if_neg hc]
theorem zFl_eq {n : Nat} {u : Nat → Nat} (hn : n ≤ 8) {s : Nat} (hs : s < 256) : zFl n u s = (if s = 0 then 1 else 0) + zsm n (fun a => if zla1 u s a = true then zFl n u (zdf s (2 ^ a)) else 0) := by
  unfold zFl
  rw [zFq]
  congr 1
  refine zsm_cong (fun a ha => ?_)
  by_cases hc : zla1 u s a = true
  · rw [if_pos hc, if_pos hc]
    have hb : s.testBit a = true := by
      unfold zla1 at hc
      rw [Bool.and_eq_true] at hc
      exact hc.1
    have := (zpc_out s hs a (by omega)).1 hb
    have := zpc8 s
    exact zFq_st hn 8 _ (zdf_lt (n := 8) hs) (by omega)
  · rw [if_neg hc, if_neg hc]
theorem zor_lt {n s a : Nat} (hs : s < 2 ^ n) (ha : a < n) : s ||| 2 ^ a < 2 ^ n := Nat.or_lt_two_pow hs (Nat.pow_lt_pow_right (by decide) ha)
theorem zcf_s {n : Nat} {u : Nat → Nat} {s a : Nat} (h : zcf n u s a = true) : a < n ∧ s.testBit a = false ∧ zdf (u a) s = 0 := by
  unfold zcf at h
  simp only [Bool.and_eq_true, decide_eq_true_eq, Bool.not_eq_true'] at h
  exact ⟨h.1.1, h.1.2, h.2⟩
theorem zGq_st {n : Nat} {u : Nat → Nat} (hn : n ≤ 8) : ∀ k s, s < 2 ^ n → n < k + zpc s → zGq n u k s = zGq n u (k + 1) s
  | 0, s, hs, h => by
    have h1 := zpc_full n hn
    have h8 := z28 hn
    have : zpc s ≤ zpc (2 ^ n - 1) := zpc_mono (by omega) (by omega) (fun i hi => by
      rw [Nat.testBit_two_pow_sub_one]
      rcases Nat.lt_or_ge i n with q | q
      · simp [q]
      · rw [zbit_hi hs q] at hi
        cases hi)
    omega
  | k + 1, s, hs, h => by
    have h8 := z28 hn
    rw [zGq, zGq]
    congr 1
    refine zsm_cong (fun a ha => ?_)
    by_cases hc : zcf n u s a = true
    · rw [if_pos hc, if_pos hc]
      have := (zpc_out s (by omega) a (by omega)).2 (zcf_s hc).2.1
      exact zGq_st hn k _ (zor_lt hs ha) (by omega)
    · rw [if_neg hc, if_neg hc]
theorem zGl_eq {n : Nat} {u : Nat → Nat} (hn : n ≤ 8) {s : Nat} (hs : s < 2 ^ n) : zGl n u s = (if s = 2 ^ n - 1 then 1 else 0) + zsm n (fun a => if zcf n u s a = true then zGl n u (s ||| 2 ^ a) else 0) := by
  have h8 := z28 hn
  unfold zGl
  rw [zGq]
  congr 1
  refine zsm_cong (fun a ha => ?_)
  by_cases hc : zcf n u s a = true
  · rw [if_pos hc, if_pos hc]
    have := (zpc_out s (by omega) a (by omega)).2 (zcf_s hc).2.1
    exact zGq_st hn 8 _ (zor_lt hs ha) (by omega)
  · rw [if_neg hc, if_neg hc]
theorem zdx {s a : Nat} (h : s.testBit a = true) : zdf s (2 ^ a) = s ^^^ 2 ^ a := zext (fun i => by
  rw [zdf_bit, Nat.testBit_xor, Nat.testBit_two_pow]
  by_cases e : a = i
  · subst e
    simp [h]
  · simp [e])
theorem zox {s a : Nat} (h : s.testBit a = false) : s ||| 2 ^ a = s ^^^ 2 ^ a := zext (fun i => by
  rw [Nat.testBit_or, Nat.testBit_xor, Nat.testBit_two_pow]
  by_cases e : a = i
  · subst e
    simp [h]
  · simp [e])
theorem zxx (s a : Nat) : (s ^^^ 2 ^ a) ^^^ 2 ^ a = s := by rw [Nat.xor_assoc, Nat.xor_self, Nat.xor_zero]
theorem zxb (s a : Nat) : (s ^^^ 2 ^ a).testBit a = !s.testBit a := by
  rw [Nat.testBit_xor, Nat.testBit_two_pow]
  cases s.testBit a <;> simp
/-- THE COUNT: all that begin with everything are all that go on behind nothing -/
theorem zFG {n : Nat} {u : Nat → Nat} (hn : n ≤ 8) : zFl n u (2 ^ n - 1) = zGl n u 0 := by
  have h8 := z28 hn
  have hp := Nat.one_le_two_pow (n := n)
  have e1 : zsm (2 ^ n) (fun s => zFl n u s * zGl n u s) = zFl n u (2 ^ n - 1) + zsm n (fun a => zsm (2 ^ n) (fun s => if zcf n u s a = true then zFl n u s * zGl n u (s ||| 2 ^ a) else 0)) := by
    have : zsm (2 ^ n) (fun s => zFl n u s * zGl n u s) = zsm (2 ^ n) (fun s => (if s = 2 ^ n - 1 then zFl n u s else 0) + zsm n (fun a => if zcf n u s a = true then zFl n u s * zGl n u (s ||| 2 ^ a) else 0)) := zsm_cong (fun s hs => by
      rw [zGl_eq hn hs, Nat.mul_add, ← zsm_mul]
      congr 1
      · split <;> simp
      · refine zsm_cong (fun a ha => ?_)
        split <;> simp)
    rw [this, zsm_add, zsm_swap]
    congr 1
    have h2 : zsm (2 ^ n - 1 + 1) (fun s => if s = 2 ^ n - 1 then zFl n u s else 0) = zFl n u (2 ^ n - 1) := by
      rw [zsm_s, zsm_0 (fun j hj => by rw [if_neg (by omega)]), if_pos rfl, Nat.zero_add]
    rw [Nat.sub_add_cancel hp] at h2
    exact h2
  have e2 : zsm (2 ^ n) (fun s => zFl n u s * zGl n u s) = zGl n u 0 + zsm n (fun a => zsm (2 ^ n) (fun s => if zla1 u s a = true then zFl n u (zdf s (2 ^ a)) * zGl n u s else 0)) := by
    have : zsm (2 ^ n) (fun s => zFl n u s * zGl n u s) = zsm (2 ^ n) (fun s => (if s = 0 then zGl n u s else 0) + zsm n (fun a => if zla1 u s a = true then zFl n u (zdf s (2 ^ a)) * zGl n u s else 0)) := zsm_cong (fun s hs => by
      rw [zFl_eq hn (by omega), Nat.mul_comm, Nat.mul_add, ← zsm_mul]
      congr 1
      · split <;> simp
      · refine zsm_cong (fun a ha => ?_)
        split
        · rw [Nat.mul_comm]
        · simp)
    rw [this, zsm_add, zsm_swap]
    congr 1
    have h2 : zsm (1 + (2 ^ n - 1)) (fun s => if s = 0 then zGl n u s else 0) = zGl n u 0 := by
      rw [zsm_split, zsm_0 (g := fun j => if 1 + j = 0 then zGl n u (1 + j) else 0) (fun j hj => by rw [if_neg (by omega)])]
      show 0 + zGl n u 0 + 0 = _
      omega
    rw [show 1 + (2 ^ n - 1) = 2 ^ n by omega] at h2
    exact h2
  have e3 : zsm n (fun a => zsm (2 ^ n) (fun s => if zcf n u s a = true then zFl n u s * zGl n u (s ||| 2 ^ a) else 0)) = zsm n (fun a => zsm (2 ^ n) (fun s => if zla1 u s a = true then zFl n u (zdf s (2 ^ a)) * zGl n u s else 0)) := zsm_cong (fun a ha => by
    rw [← zsm_xor (fun s => if zla1 u s a = true then zFl n u (zdf s (2 ^ a)) * zGl n u s else 0) ha]
    refine zsm_cong (fun s hs => ?_)
    show _ = if zla1 u (s ^^^ 2 ^ a) a = true then zFl n u (zdf (s ^^^ 2 ^ a) (2 ^ a)) * zGl n u (s ^^^ 2 ^ a) else 0
    unfold zcf zla1
    rw [zxb]
    cases hb : s.testBit a
    · rw [zdx (s := s ^^^ 2 ^ a) (by rw [zxb, hb]; rfl), zxx, zox hb]
      simp [ha]
    · simp)
  rw [e3] at e1
  omega
theorem zFl_bd {n : Nat} {u : Nat → Nat} (hn : n ≤ 8) : ∀ k s, s < 256 → zpc s ≤ k → zFl n u s ≤ 8 ^ zpc s := by
  intro k
  induction k with
  | zero =>
    intro s hs hk
    have h0 : ∀ i, s.testBit i = false := fun i => by
      cases hb : s.testBit i
      · rfl
      · have hi : i < 8 := by
          rcases Nat.lt_or_ge i 8 with q | q
          · exact q
          · rw [zbit_hi (n := 8) hs q] at hb
            cases hb
        have := (zpc_out s hs i hi).1 hb
        omega
    rw [zFl_eq hn hs, zsm_0 (fun a ha => by unfold zla1; rw [h0 a]; rfl)]
    have : 1 ≤ 8 ^ zpc s := Nat.one_le_pow _ _ (by decide)
    split <;> omega
  | succ k ih =>
    intro s hs hk
    by_cases h0 : s = 0
    · subst h0
      rw [zFl_eq hn hs, zsm_0 (fun a ha => by unfold zla1; rw [show Nat.testBit 0 a = false by simp]; rfl)]
      have : 1 ≤ 8 ^ zpc 0 := Nat.one_le_pow _ _ (by decide)
      rw [if_pos rfl]
      omega
    · rw [zFl_eq hn hs, if_neg h0, Nat.zero_add]
      rcases Nat.eq_zero_or_pos (zpc s) with q | q
      · have := ih s hs (by omega)
        rw [zFl_eq hn hs, if_neg h0, Nat.zero_add] at this
        exact this
      · have h1 : zsm n (fun a => if zla1 u s a = true then zFl n u (zdf s (2 ^ a)) else 0) ≤ n * 8 ^ (zpc s - 1) := zsm_bd (fun a ha => by
          show (if zla1 u s a = true then zFl n u (zdf s (2 ^ a)) else 0) ≤ _
          split
          · rename_i hc
            have hb : s.testBit a = true := by
              unfold zla1 at hc
              rw [Bool.and_eq_true] at hc
              exact hc.1
            have h2 := (zpc_out s hs a (by omega)).1 hb
            have h3 := ih _ (zdf_lt (n := 8) (b := 2 ^ a) hs) (by omega)
            rw [show zpc s - 1 = zpc (zdf s (2 ^ a)) by omega]
            exact h3
          · exact Nat.zero_le _)
        have h2 : n * 8 ^ (zpc s - 1) ≤ 8 * 8 ^ (zpc s - 1) := Nat.mul_le_mul_right _ hn
        have h3 : 8 * 8 ^ (zpc s - 1) = 8 ^ zpc s := by
          rw [Nat.mul_comm, ← Nat.pow_succ, Nat.succ_eq_add_one, Nat.sub_add_cancel q]
        omega
theorem zFl_31 {n : Nat} {u : Nat → Nat} (hn : n ≤ 8) {s : Nat} (hs : s < 256) : zFl n u s ≤ 16777216 := by
  have h1 := zFl_bd (u := u) hn _ s hs (Nat.le_refl _)
  have h2 : 8 ^ zpc s ≤ 8 ^ 8 := Nat.pow_le_pow_right (by decide) (zpc8 s)
  have h3 : 8 ^ 8 = 16777216 := by decide
  omega
theorem zGl_bd {n : Nat} {u : Nat → Nat} (hn : n ≤ 8) : ∀ k s, s < 2 ^ n → n ≤ k + zpc s → zGl n u s ≤ 8 ^ k := by
  have h8 := z28 hn
  intro k
  induction k with
  | zero =>
    intro s hs hk
    have e : s = 2 ^ n - 1 := by
      apply Classical.byContradiction
      intro hne
      have : ∃ i, i < n ∧ s.testBit i = false := by
        apply Classical.byContradiction
        intro hno
        apply hne
        refine zext (fun i => ?_)
        rw [Nat.testBit_two_pow_sub_one]
        rcases Nat.lt_or_ge i n with q | q
        · cases hb : s.testBit i
          · exact absurd ⟨i, q, hb⟩ hno
          · simp [q]
        · rw [zbit_hi hs q]
          simp [q]
      obtain ⟨i, hi, hb⟩ := this
      have := zpc_n hn hs hi hb
      omega
    rw [zGl_eq hn hs, if_pos e, zsm_0 (fun a ha => by
      have : s.testBit a = true := by rw [e, Nat.testBit_two_pow_sub_one]; simp [ha]
      unfold zcf
      rw [this]
      simp)]
    simp
  | succ k ih =>
    intro s hs hk
    rw [zGl_eq hn hs]
    by_cases e : s = 2 ^ n - 1
    · rw [if_pos e, zsm_0 (fun a ha => by
        have : s.testBit a = true := by rw [e, Nat.testBit_two_pow_sub_one]; simp [ha]
        unfold zcf
        rw [this]
        simp)]
      exact Nat.one_le_pow _ _ (by decide)
    · rw [if_neg e, Nat.zero_add]
      have h1 : zsm n (fun a => if zcf n u s a = true then zGl n u (s ||| 2 ^ a) else 0) ≤ n * 8 ^ k := zsm_bd (fun a ha => by
        show (if zcf n u s a = true then zGl n u (s ||| 2 ^ a) else 0) ≤ _
        split
        · rename_i hc
          have h2 := (zpc_out s (by omega) a (by omega)).2 (zcf_s hc).2.1
          exact ih _ (zor_lt hs ha) (by omega)
        · exact Nat.zero_le _)
      have h2 : n * 8 ^ k ≤ 8 * 8 ^ k := Nat.mul_le_mul_right _ hn
      rw [Nat.pow_succ]
      omega
theorem zGl_31 {n : Nat} {u : Nat → Nat} (hn : n ≤ 8) {s : Nat} (hs : s < 2 ^ n) : zGl n u s ≤ 16777216 := by
  have h1 := zGl_bd (u := u) hn 8 s hs (by omega)
  have h3 : 8 ^ 8 = 16777216 := by decide
  omega
theorem zid_iff {n : Nat} {u : Nat → Nat} {s : Nat} : zid n u s = true ↔ ∀ a, a < n → s.testBit a = true → zdf (u a) s = 0 := decide_eq_true_iff
theorem zdf0 {a b : Nat} : zdf a b = 0 ↔ ∀ i, a.testBit i = true → b.testBit i = true := by
  rw [zeq0]
  constructor
  · intro h i hi
    have := h i
    rw [zdf_bit, hi] at this
    simpa using this
  · intro h i
    rw [zdf_bit]
    cases ha : a.testBit i
    · rfl
    · rw [h i ha]
      rfl
/-- a beginning is one that lines begin with -/
theorem zFl_id {n : Nat} {u : Nat → Nat} (h : zPo n u) : ∀ k s, s < 2 ^ n → zpc s ≤ k → (0 < zFl n u s ↔ zid n u s = true) := by
  have h8 := z28 h.1
  have hn8 := h.1
  intro k
  induction k with
  | zero =>
    intro s hs hk
    have h0 : s = 0 := zeq0.mpr (fun i => by
      cases hb : s.testBit i
      · rfl
      · have hi : i < 8 := by
          rcases Nat.lt_or_ge i 8 with q | q
          · exact q
          · rw [zbit_hi (n := 8) (show s < 2 ^ 8 by omega) q] at hb
            cases hb
        have := (zpc_out s (by omega) i hi).1 hb
        omega)
    subst h0
    constructor
    · intro _
      exact zid_iff.mpr (fun a ha hb => by simp at hb)
    · intro _
      rw [zFl_eq h.1 (by decide), if_pos rfl]
      omega
  | succ k ih =>
    intro s hs hk
    rw [zFl_eq h.1 (by omega)]
    constructor
    · intro hpos
      by_cases h0 : s = 0
      · subst h0
        exact zid_iff.mpr (fun a ha hb => by simp at hb)
      · rw [if_neg h0, Nat.zero_add] at hpos
        obtain ⟨a, ha, hp⟩ := zsm_pos hpos
        split at hp
        · rename_i hc
          unfold zla1 at hc
          rw [Bool.and_eq_true, decide_eq_true_eq] at hc
          have hz := (zpc_out s (by omega) a (by omega)).1 hc.1
          have hi := (ih _ (zdf_lt hs) (by omega)).mp hp
          refine zid_iff.mpr (fun b hb hbs => ?_)
          rw [zdf0]
          intro i hib
          by_cases hba : b = a
          · subst hba
            have := zdf0.mp hc.2 i hib
            rw [zdf_bit, Bool.and_eq_true] at this
            exact this.1
          · have h1 := zid_iff.mp hi b hb (by
              rw [zdf_bit, hbs, Nat.testBit_two_pow]
              simp
              exact fun e => hba e.symm)
            have := zdf0.mp h1 i hib
            rw [zdf_bit, Bool.and_eq_true] at this
            exact this.1
        · omega
    · intro hid
      by_cases h0 : s = 0
      · rw [if_pos h0]
        omega
      · -- a thing with most below it comes last
        have hne := zne0.mp h0
        have hmax : ∃ a, a < n ∧ s.testBit a = true ∧ ∀ b, s.testBit b = true → zlt u a b = false := by
          apply Classical.byContradiction
          intro hno
          have step : ∀ m, ∃ a, a < n ∧ s.testBit a = true ∧ m ≤ zpc (u a) := by
            intro m
            induction m with
            | zero =>
              obtain ⟨a, ha⟩ := hne
              refine ⟨a, ?_, ha, Nat.zero_le _⟩
              rcases Nat.lt_or_ge a n with q | q
              · exact q
              · rw [zbit_hi hs q] at ha
                cases ha
            | succ m ihm =>
              obtain ⟨a, ha, hb, hm⟩ := ihm
              have : ∃ b, s.testBit b = true ∧ zlt u a b = true := by
                apply Classical.byContradiction
                intro hno2
                exact hno ⟨a, ha, hb, fun b hb2 => by
                  cases hz : zlt u a b
                  · rfl
                  · exact absurd ⟨b, hb2, hz⟩ hno2⟩
              obtain ⟨b, hb2, hz⟩ := this
              have := (zTr.u h).dn (i := b) (j := a) hz
              exact ⟨b, (h.lt hz).2, hb2, by omega⟩
          obtain ⟨a, _, _, hm⟩ := step 9
          have := zpc8 (u a)
          omega
        obtain ⟨a, ha, hb, hmx⟩ := hmax
        have hz := (zpc_out s (by omega) a (by omega)).1 hb
        have hla : zla1 u s a = true := by
          unfold zla1
          rw [hb, Bool.true_and, decide_eq_true_eq, zdf0]
          intro i hi
          rw [zdf_bit, zdf0.mp (zid_iff.mp hid a ha hb) i hi, Nat.testBit_two_pow]
          have : a ≠ i := by
            rintro rfl
            have := h.2.2.2.1 a
            rw [show zlt u a a = (u a).testBit a from rfl, hi] at this
            cases this
          simp [this]
        have hid2 : zid n u (zdf s (2 ^ a)) = true := zid_iff.mpr (fun b hbn hbs => by
          rw [zdf_bit, Bool.and_eq_true] at hbs
          rw [zdf0]
          intro i hi
          rw [zdf_bit, zdf0.mp (zid_iff.mp hid b hbn hbs.1) i hi, Nat.testBit_two_pow]
          have : a ≠ i := by
            rintro rfl
            have h1 := hmx b hbs.1
            rw [show zlt u a b = (u b).testBit a from rfl, hi] at h1
            cases h1
          simp [this])
        have hp := (ih _ (zdf_lt hs) (by omega)).mpr hid2
        have := zsm_ge (g := fun a => if zla1 u s a = true then zFl n u (zdf s (2 ^ a)) else 0) ha
        simp only [hla, if_true] at this
        omega
theorem zFl_pos {n : Nat} {u : Nat → Nat} (h : zPo n u) {s : Nat} (hs : s < 2 ^ n) : 0 < zFl n u s ↔ zid n u s = true := zFl_id h _ s hs (Nat.le_refl _)
