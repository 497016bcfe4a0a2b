/-! ===== Lines.fill ===== -/
abbrev zBC (A : zF2) (B C : Nat → Int32) : zF2 := va_up (va_up A 85 B) 86 C
theorem zBC_85 (A : zF2) (B C : Nat → Int32) : zBC A B C 85 = B := by unfold zBC; rw [zup_ne (by decide), zup_eq]
theorem zBC_86 (A : zF2) (B C : Nat → Int32) : zBC A B C 86 = C := zup_eq
theorem zBC_s85 (A : zF2) (B C B' : Nat → Int32) : va_up (zBC A B C) 85 B' = zBC A B' C := by
  funext j
  unfold zBC va_up
  by_cases h : j = 85
  · subst h
    simp
  · by_cases h2 : j = 86
    · subst h2
      simp
    · simp [h, h2]
theorem zBC_s86 (A : zF2) (B C C' : Nat → Int32) : va_up (zBC A B C) 86 C' = zBC A B C' := by unfold zBC; rw [bx_uu]
theorem zBC_or {I A : zF2} {q n : Nat} {u : Nat → Nat} (h : zOR I A q n u) (B C : Nat → Int32) : zOR I (zBC A B C) q n u := (h.up (p := 85) (by decide)).up (p := 86) (by decide)
/-- what the class counts behind a set -/
def zGc (n : Nat) (u : Nat → Nat) (s : Nat) : Nat := if zFl n u s = 0 then 0 else zGl n u s
/-- the class's tables -/
def zLn (A : zF2) (n : Nat) (u : Nat → Nat) : Prop := ∀ s, s < 2 ^ n → A 85 s = nI (zFl n u s) ∧ A 86 s = nI (zGc n u s)
def zPk (n : Nat) (u : Nat → Nat) (k s : Nat) : Nat := (if s = 0 then 1 else 0) + zsm n (fun a => if zla1 u s a = true ∧ zdf s (2 ^ a) < k then zFl n u (zdf s (2 ^ a)) else 0)
def zPj (n : Nat) (u : Nat → Nat) (k j s : Nat) : Nat := zPk n u k s + zsm j (fun a => if zla1 u s a = true ∧ zdf s (2 ^ a) = k then zFl n u k else 0)
theorem zdf_l (s : Nat) (_ : s < 256) (a : Nat) (_ : a < 8) (h : s.testBit a = true) : zdf s (2 ^ a) < s := by
  have hle : zdf s (2 ^ a) ≤ s := Nat.le_of_testBit (fun i hi => by
    rw [zdf_bit, Bool.and_eq_true] at hi
    exact hi.1)
  have hne : zdf s (2 ^ a) ≠ s := by
    intro e
    have h1 : (zdf s (2 ^ a)).testBit a = false := by rw [zdf_bit, Nat.testBit_two_pow_self]; simp
    rw [e, h] at h1
    cases h1
  omega
theorem zdf_o (s a : Nat) (h : s.testBit a = true) : zdf s (2 ^ a) ||| 2 ^ a = s := by
  have h1 : (zdf s (2 ^ a)).testBit a = false := by rw [zdf_bit, Nat.testBit_two_pow_self]; simp
  rw [zox h1, zdx h, zxx]
theorem zo_df (s a : Nat) (h : s.testBit a = false) : zdf (s ||| 2 ^ a) (2 ^ a) = s := by
  have h1 : (s ||| 2 ^ a).testBit a = true := by rw [Nat.testBit_or, Nat.testBit_two_pow_self]; simp
  rw [zdx h1, zox h, zxx]
theorem zla_s {u : Nat → Nat} {s a : Nat} (h : zla1 u s a = true) : s.testBit a = true ∧ zdf (u a) (zdf s (2 ^ a)) = 0 := by
  unfold zla1 at h
  rw [Bool.and_eq_true, decide_eq_true_eq] at h
  exact h
/-- to come last in s, and what is then ahead is k: to follow behind k -/
theorem zla_cf {n : Nat} {u : Nat → Nat} {s k a : Nat} (ha : a < n) : (zla1 u s a = true ∧ zdf s (2 ^ a) = k) ↔ (zcf n u k a = true ∧ s = k ||| 2 ^ a) := by
  constructor
  · rintro ⟨h1, h2⟩
    obtain ⟨g1, g2⟩ := zla_s h1
    rw [h2] at g2
    have g3 : k.testBit a = false := by rw [← h2, zdf_bit, Nat.testBit_two_pow_self]; simp
    refine ⟨?_, ?_⟩
    · unfold zcf
      simp [ha, g3, g2]
    · rw [← h2, zdf_o s a g1]
  · rintro ⟨h1, rfl⟩
    obtain ⟨g1, g2, g3⟩ := zcf_s h1
    have e := zo_df k a g2
    refine ⟨?_, e⟩
    unfold zla1
    rw [e, Nat.testBit_or, Nat.testBit_two_pow_self]
    simp [g3]
theorem zPk_0 {n : Nat} {u : Nat → Nat} (s : Nat) : zPk n u 0 s = if s = 0 then 1 else 0 := by
  unfold zPk
  rw [zsm_0 (fun a ha => by rw [if_neg (fun h => by omega)]), Nat.add_zero]
theorem zPk_k {n : Nat} {u : Nat → Nat} (hn : n ≤ 8) {k s : Nat} (hs : s < 256) (hk : s ≤ k) : zPk n u k s = zFl n u s := by
  rw [zFl_eq hn hs]
  unfold zPk
  congr 1
  refine zsm_cong (fun a ha => ?_)
  by_cases hc : zla1 u s a = true
  · have := zdf_l s hs a (by omega) (zla_s hc).1
    rw [if_pos ⟨hc, by omega⟩, if_pos hc]
  · rw [if_neg (fun h => hc h.1), if_neg hc]
theorem zPj_n {n : Nat} {u : Nat → Nat} (k s : Nat) : zPj n u k n s = zPk n u (k + 1) s := by
  unfold zPj zPk
  rw [Nat.add_assoc, ← zsm_add]
  congr 1
  refine zsm_cong (fun a ha => ?_)
  by_cases hc : zla1 u s a = true
  · by_cases h1 : zdf s (2 ^ a) = k
    · rw [if_neg (fun h => by omega), if_pos ⟨hc, h1⟩, if_pos ⟨hc, by omega⟩, h1, Nat.zero_add]
    · by_cases h2 : zdf s (2 ^ a) < k
      · rw [if_pos ⟨hc, h2⟩, if_neg (fun h => h1 h.2), if_pos ⟨hc, by omega⟩, Nat.add_zero]
      · rw [if_neg (fun h => h2 h.2), if_neg (fun h => h1 h.2), if_neg (fun h => by omega)]
  · rw [if_neg (fun h => hc h.1), if_neg (fun h => hc h.1), if_neg (fun h => hc h.1)]
theorem zPj_s {n : Nat} {u : Nat → Nat} (k j s : Nat) (hj : j < n) : zPj n u k (j + 1) s = zPj n u k j s + if zcf n u k j = true ∧ s = k ||| 2 ^ j then zFl n u k else 0 := by
  unfold zPj
  rw [zsm_s, Nat.add_assoc]
  congr 2
  by_cases hc : zla1 u s j = true ∧ zdf s (2 ^ j) = k
  · rw [if_pos hc, if_pos ((zla_cf hj).mp hc)]
  · rw [if_neg hc, if_neg (fun h => hc ((zla_cf hj).mpr h))]
theorem zPj_k {n : Nat} {u : Nat → Nat} (hn : n ≤ 8) {k : Nat} (hk : k < 256) : ∀ j, j ≤ n → zPj n u k j k = zFl n u k := by
  intro j hj
  unfold zPj
  rw [zPk_k hn hk (Nat.le_refl _), zsm_0 (fun a ha => by
    rw [if_neg (fun h => ?_)]
    have := zdf_l k hk a (by omega) (zla_s h.1).1
    omega), Nat.add_zero]
theorem zcf_id {n : Nat} {u : Nat → Nat} {k a : Nat} (hk : zid n u k = true) (ha : zcf n u k a = true) : zid n u (k ||| 2 ^ a) = true := by
  obtain ⟨h1, h2, h3⟩ := zcf_s ha
  refine zid_iff.mpr (fun b hb hbs => ?_)
  rw [zdf0]
  intro i hi
  rw [Nat.testBit_or]
  rw [Nat.testBit_or, Bool.or_eq_true, Nat.testBit_two_pow] at hbs
  rcases hbs with q | q
  · rw [zdf0.mp (zid_iff.mp hk b hb q) i hi]
    rfl
  · have : a = b := by simpa using q
    subst this
    rw [zdf0.mp h3 i hi]
    rfl
theorem zsm_z (g : Nat → Nat) : zsm 0 g = 0 := rfl
theorem zPj_0 {n : Nat} {u : Nat → Nat} (k s : Nat) : zPj n u k 0 s = zPk n u k s := by
  unfold zPj
  rw [zsm_z, Nat.add_zero]
def zQf (I A : zF2) (t : zW) (n : Nat) (u : Nat → Nat) : Option Value → zW → Prop := fun v w1 => v = none ∧ ∃ B C, w1 = zWd I (zBC A B C) t ∧ zLn (zBC A B C) n u
section ZFi
variable {X : zX} {I A : zF2} {t : zW} {q n : Nat} {u : Nat → Nat}
theorem fd_in (h : zOR I A q n u) {k : Nat} (hk : k < 2 ^ n - 1) (hF : 0 < zFl n u k) (B : Nat → Int32) (hB : ∀ s, s < 2 ^ n → B s = nI (zFl n u s))
    (leave : ∀ C' : Nat → Int32, (∀ s, s < 2 ^ n → C' s = nI (if s < k then 0 else zGc n u s)) → zRn X 2 0 0 MX4_fill 183 [some (.ref 84), some (.ref q), none, some (.int (nI k)), none] [] (zWd I (zBC A B C') t) (zQf I A t n u)) :
    ∀ j, j ≤ n → ∀ C' : Nat → Int32, (∀ s, s < 2 ^ n → C' s = nI (if s < k then 0 else if s = k then zsm j (fun a => if zcf n u k a = true then zGl n u (k ||| 2 ^ a) else 0) else zGc n u s)) → zRn X 2 0 0 MX4_fill 129 [some (.ref 84), some (.ref q), none, some (.int (nI k)), some (.int (nI j))] [] (zWd I (zBC A B C') t) (zQf I A t n u) := by
  have h8 := h.n8
  have h28 := z28 h8
  have hk2 : k < 2 ^ n := by omega
  have f31 := zFl_31 (u := u) h8 (s := k) (by omega)
  have hid := (zFl_pos h.2.1 hk2).mp hF
  refine zdown ?_ ?_
  · intro C' hC'
    refine bX4_fill_129 _ _ _ _ ⟨_, fr_84_0.rd, _, (ar_85.rd (by omega)).trans (by rw [zBC_85, hB k hk2]), ?_⟩
    rw [if_neg (nI_nle (by omega) (by omega))]
    refine zvRd h.1.ob (v_size (zBC_or h B C')) (by decide) ?_
    rw [if_pos (Int32.le_refl _)]
    refine leave C' (fun s hs => ?_)
    rw [hC' s hs]
    by_cases hsk : s < k
    · rw [if_pos hsk, if_pos hsk]
    · rw [if_neg hsk, if_neg hsk]
      by_cases hse : s = k
      · subst hse
        rw [if_pos rfl]
        unfold zGc
        rw [if_neg (by omega), zGl_eq h8 hs, if_neg (by omega), Nat.zero_add]
      · rw [if_neg hse]
  · intro j hj ih2 C' hC'
    refine bX4_fill_129 _ _ _ _ ⟨_, fr_84_0.rd, _, (ar_85.rd (by omega)).trans (by rw [zBC_85, hB k hk2]), ?_⟩
    rw [if_neg (nI_nle (by omega) (by omega))]
    refine zvRd h.1.ob (v_size (zBC_or h B C')) (by decide) ?_
    rw [zi_le (by omega) (by omega), if_neg (by omega)]
    refine zvRd h.1.ob (v_canFollow (zBC_or h B C') (by omega) (by omega)) (by decide) ?_
    rw [zB_if]
    have ek : C' k = nI (zsm j (fun a => if zcf n u k a = true then zGl n u (k ||| 2 ^ a) else 0)) := by
      rw [hC' k hk2, if_neg (Nat.lt_irrefl _), if_pos rfl]
    by_cases hc : zcf n u k j = true
    · rw [if_pos hc]
      have hlt := zor_lt hk2 hj
      have hgt : k < k ||| 2 ^ j := by
        have h1 := zdf_l (k ||| 2 ^ j) (by omega) j (by omega) (by rw [Nat.testBit_or, Nat.testBit_two_pow_self]; simp)
        rw [zo_df k j (zcf_s hc).2.1] at h1
        exact h1
      have hid2 := zcf_id hid hc
      have hF2 := (zFl_pos h.2.1 hlt).mpr hid2
      have e2 : zaI (zWd I (zBC A B C') t) 86 (nI k ||| (1 : Int32) <<< (nI j &&& 31)) = some (nI (zGl n u (k ||| 2 ^ j))) := by
        rw [zb_1 j (by omega), zb_or]
        refine (ar_86.rd (by omega)).trans ?_
        rw [zBC_86, hC' _ hlt, if_neg (by omega), if_neg (by omega)]
        unfold zGc
        rw [if_neg (by omega)]
      refine ⟨_, fr_84_1.rd, _, (ar_86.rd (by omega)).trans (by rw [zBC_86, ek]), _, fr_84_1.rd, _, e2, _, ar_86.wr (by omega), ?_⟩
      rw [zBC_s86, zBC_86]
      refine bX4_fill_177 _ _ _ _ ?_
      rw [nI_1]
      refine ih2 _ (fun s hs => ?_)
      unfold upd
      by_cases hse : s = k
      · subst hse
        rw [if_pos rfl, if_neg (Nat.lt_irrefl _), if_pos rfl, nI_add, zsm_s, if_pos hc]
      · rw [if_neg hse, hC' s hs, if_neg hse, if_neg hse]
    · rw [if_neg hc]
      refine bX4_fill_177 _ _ _ _ ?_
      rw [nI_1]
      refine ih2 C' (fun s hs => ?_)
      rw [hC' s hs, zsm_s, if_neg hc, Nat.add_zero]
theorem fd_down (h : zOR I A q n u) (B : Nat → Int32) (hB : ∀ s, s < 2 ^ n → B s = nI (zFl n u s)) : ∀ m, m ≤ 2 ^ n - 1 → ∀ C : Nat → Int32, (∀ s, s < 2 ^ n → C s = nI (if s < m then 0 else zGc n u s)) → zRn X 2 0 0 MX4_fill 122 [some (.ref 84), some (.ref q), none, some (.int (nI m - 1)), none] [] (zWd I (zBC A B C) t) (zQf I A t n u) := by
  have h8 := h.n8
  have h28 := z28 h8
  intro m
  induction m with
  | zero =>
    intro _ C hC
    refine bX4_fill_122 _ _ _ ?_
    rw [if_pos (by decide)]
    refine ⟨rfl, B, C, rfl, fun s hs => ?_⟩
    rw [zBC_85, zBC_86, hB s hs, hC s hs, if_neg (Nat.not_lt_zero _)]
    exact ⟨rfl, rfl⟩
  | succ k ih =>
    intro hm C hC
    refine bX4_fill_122 _ _ _ ?_
    have e1 : nI (k + 1) - 1 = nI k := by show nI (k + 1) - nI 1 = _; rw [pk_sub (by omega), Nat.add_sub_cancel]
    rw [e1, if_neg (nI_pos (by omega))]
    have hk : k < 2 ^ n := by omega
    have leave : ∀ C' : Nat → Int32, (∀ s, s < 2 ^ n → C' s = nI (if s < k then 0 else zGc n u s)) → zRn X 2 0 0 MX4_fill 183 [some (.ref 84), some (.ref q), none, some (.int (nI k)), none] [] (zWd I (zBC A B C') t) (zQf I A t n u) := fun C' hC' => by
      refine bX4_fill_183 _ _ _ ?_
      exact ih (by omega) C' hC'
    by_cases hF : zFl n u k = 0
    · refine bX4_fill_129 _ _ _ _ ⟨_, fr_84_0.rd, _, (ar_85.rd (by omega)).trans (by rw [zBC_85, hB k hk, hF]), ?_⟩
      rw [if_pos (show nI 0 ≤ 0 from Int32.le_refl _)]
      refine leave C (fun s hs => ?_)
      rw [hC s hs]
      by_cases hsk : s < k
      · rw [if_pos (by omega), if_pos hsk]
      · rw [if_neg hsk]
        by_cases hse : s < k + 1
        · have : s = k := by omega
          subst this
          rw [if_pos hse]
          unfold zGc
          rw [if_pos hF]
        · rw [if_neg hse]
    · refine fd_in h (by omega) (by omega) B hB leave 0 (Nat.zero_le _) C (fun s hs => ?_)
      rw [hC s hs]
      by_cases hsk : s < k
      · rw [if_pos (by omega), if_pos hsk]
      · rw [if_neg hsk]
        by_cases hse : s = k
        · subst hse
          rw [if_pos (by omega), if_pos rfl, zsm_z]
        · rw [if_neg (by omega), if_neg hse]
theorem fu_in (h : zOR I A q n u) {k : Nat} (hk : k < 2 ^ n - 1) (hF : 0 < zFl n u k) (C : Nat → Int32)
    (leave : ∀ B' : Nat → Int32, (∀ s, s < 2 ^ n → B' s = nI (zPk n u (k + 1) s)) → zRn X 2 0 0 MX4_fill 105 [some (.ref 84), some (.ref q), some (.int (nI (2 ^ n - 1))), some (.int (nI k)), none] [] (zWd I (zBC A B' C) t) (zQf I A t n u)) :
    ∀ j, j ≤ n → ∀ B' : Nat → Int32, (∀ s, s < 2 ^ n → B' s = nI (zPj n u k j s)) → zRn X 2 0 0 MX4_fill 51 [some (.ref 84), some (.ref q), some (.int (nI (2 ^ n - 1))), some (.int (nI k)), some (.int (nI j))] [] (zWd I (zBC A B' C) t) (zQf I A t n u) := by
  have h8 := h.n8
  have h28 := z28 h8
  have f31 := zFl_31 (u := u) h8 (s := k) (by omega)
  refine zdown ?_ ?_
  · intro B' hB'
    refine bX4_fill_51 _ _ _ _ _ ⟨_, fr_84_0.rd, _, (ar_85.rd (by omega)).trans (by rw [zBC_85, hB' k (by omega), zPj_k h8 (by omega) n (Nat.le_refl _)]), ?_⟩
    rw [if_neg (nI_nle (by omega) (by omega))]
    refine zvRd h.1.ob (v_size (zBC_or h B' C)) (by decide) ?_
    rw [if_pos (Int32.le_refl _)]
    exact leave B' (fun s hs => by rw [hB' s hs, zPj_n])
  · intro j hj ih2 B' hB'
    refine bX4_fill_51 _ _ _ _ _ ⟨_, fr_84_0.rd, _, (ar_85.rd (by omega)).trans (by rw [zBC_85, hB' k (by omega), zPj_k h8 (by omega) j (by omega)]), ?_⟩
    rw [if_neg (nI_nle (by omega) (by omega))]
    refine zvRd h.1.ob (v_size (zBC_or h B' C)) (by decide) ?_
    rw [zi_le (by omega) (by omega), if_neg (by omega)]
    refine zvRd h.1.ob (v_canFollow (zBC_or h B' C) (by omega) (by omega)) (by decide) ?_
    rw [zB_if]
    by_cases hc : zcf n u k j = true
    · rw [if_pos hc]
      have hlt := zor_lt (show k < 2 ^ n by omega) hj
      have e1 : zaI (zWd I (zBC A B' C) t) 85 (nI k ||| (1 : Int32) <<< (nI j &&& 31)) = some (nI (zPj n u k j (k ||| 2 ^ j))) := by
        rw [zb_1 j (by omega), zb_or]
        exact (ar_85.rd (by omega)).trans (by rw [zBC_85, hB' _ hlt])
      have e2 : zaI (zWd I (zBC A B' C) t) 85 (nI k) = some (nI (zFl n u k)) := (ar_85.rd (by omega)).trans (by rw [zBC_85, hB' k (by omega), zPj_k h8 (by omega) j (by omega)])
      have e3 : zsI (zWd I (zBC A B' C) t) 85 (nI k ||| (1 : Int32) <<< (nI j &&& 31)) (nI (zPj n u k j (k ||| 2 ^ j)) + nI (zFl n u k)) = some (zWd I (zBC A (upd B' (k ||| 2 ^ j) (nI (zPj n u k j (k ||| 2 ^ j)) + nI (zFl n u k))) C) t) := by
        rw [zb_1 j (by omega), zb_or]
        refine (ar_85.wr (by omega)).trans ?_
        rw [zBC_s85, zBC_85]
      refine ⟨_, fr_84_0.rd, _, e1, _, fr_84_0.rd, _, e2, _, e3, ?_⟩
      refine bX4_fill_99 _ _ _ _ _ ?_
      rw [nI_1]
      refine ih2 _ (fun s hs => ?_)
      rw [zPj_s k j s hj]
      unfold upd
      by_cases hse : s = k ||| 2 ^ j
      · rw [if_pos hse, if_pos ⟨hc, hse⟩, nI_add, hse]
      · rw [if_neg hse, if_neg (fun z => hse z.2), hB' s hs, Nat.add_zero]
    · rw [if_neg hc]
      refine bX4_fill_99 _ _ _ _ _ ?_
      rw [nI_1]
      refine ih2 B' (fun s hs => ?_)
      rw [zPj_s k j s hj, if_neg (fun z => hc z.1), hB' s hs, Nat.add_zero]
theorem zGc_full (h : zPo n u) : zGc n u (2 ^ n - 1) = 1 := by
  have h8 := h.1
  have h28 := z28 h8
  have hp := Nat.one_le_two_pow (n := n)
  have hid : zid n u (2 ^ n - 1) = true := zid_iff.mpr (fun a ha _ => by
    rw [zdf0]
    intro i hi
    rw [Nat.testBit_two_pow_sub_one]
    have := (h.lt (a := i) (b := a) hi).1
    simp [this])
  have hF := (zFl_pos h (by omega)).mpr hid
  unfold zGc
  rw [if_neg (by omega), zGl_eq h8 (by omega), if_pos rfl, zsm_0 (fun a ha => by
    have : (2 ^ n - 1).testBit a = true := by rw [Nat.testBit_two_pow_sub_one]; simp [ha]
    unfold zcf
    rw [this]
    simp)]
theorem fu_up (h : zOR I A q n u) (C : Nat → Int32) (hC : ∀ s, s < 256 → C s = 0) : ∀ k, k ≤ 2 ^ n - 1 → ∀ B : Nat → Int32, (∀ s, s < 2 ^ n → B s = nI (zPk n u k s)) → zRn X 2 0 0 MX4_fill 43 [some (.ref 84), some (.ref q), some (.int (nI (2 ^ n - 1))), some (.int (nI k)), none] [] (zWd I (zBC A B C) t) (zQf I A t n u) := by
  have h8 := h.n8
  have h28 := z28 h8
  have hp := Nat.one_le_two_pow (n := n)
  refine zdown ?_ ?_
  · intro B hB
    refine bX4_fill_43 _ _ _ _ ?_
    rw [if_pos (Int32.le_refl _)]
    refine ⟨_, fr_84_1.rd, _, ar_86.wr (by omega), ?_⟩
    rw [zBC_s86, zBC_86]
    refine fd_down h B (fun s hs => by rw [hB s hs, zPk_k h8 (by omega) (by omega)]) (2 ^ n - 1) (Nat.le_refl _) _ (fun s hs => ?_)
    unfold upd
    by_cases hse : s = 2 ^ n - 1
    · rw [if_pos hse, if_neg (by omega), hse, zGc_full h.2.1]
      rfl
    · rw [if_neg hse, hC s (by omega), if_pos (by omega)]
      rfl
  · intro k hk ih B hB
    refine bX4_fill_43 _ _ _ _ ?_
    rw [zi_le (by omega) (by omega), if_neg (by omega)]
    have leave : ∀ B' : Nat → Int32, (∀ s, s < 2 ^ n → B' s = nI (zPk n u (k + 1) s)) → zRn X 2 0 0 MX4_fill 105 [some (.ref 84), some (.ref q), some (.int (nI (2 ^ n - 1))), some (.int (nI k)), none] [] (zWd I (zBC A B' C) t) (zQf I A t n u) := fun B' hB' => by
      refine bX4_fill_105 _ _ _ _ ?_
      rw [nI_1]
      exact ih B' hB'
    by_cases hF : zFl n u k = 0
    · refine bX4_fill_51 _ _ _ _ _ ⟨_, fr_84_0.rd, _, (ar_85.rd (by omega)).trans (by rw [zBC_85, hB k (by omega), zPk_k h8 (by omega) (Nat.le_refl _), hF]), ?_⟩
      rw [if_pos (show nI 0 ≤ 0 from Int32.le_refl _)]
      refine leave B (fun s hs => ?_)
      rw [hB s hs, ← zPj_n]
      unfold zPj
      rw [zsm_0 (fun a ha => by rw [hF]; split <;> rfl), Nat.add_zero]
    · refine fu_in h hk (by omega) C leave 0 (Nat.zero_le _) B (fun s hs => ?_)
      rw [hB s hs, zPj_0]
theorem fe_empty (h : zOR I A q n u) : ∀ k, k ≤ 256 → ∀ B C : Nat → Int32, (∀ s, s < k → B s = 0 ∧ C s = 0) → zRn X 2 0 0 MX4_fill 7 [some (.ref 84), some (.ref q), some (.int (nI (2 ^ n - 1))), some (.int (nI k)), none] [] (zWd I (zBC A B C) t) (zQf I A t n u) := by
  have h8 := h.n8
  have h28 := z28 h8
  refine zdown ?_ ?_
  · intro B C hBC
    refine bX4_fill_7 _ _ _ _ ?_
    have e : (256 : Int32) ≤ nI 256 := by decide
    rw [if_pos e]
    refine ⟨_, fr_84_0.rd, _, ar_85.wr (j := 0) (by decide), ?_⟩
    rw [zBC_s85, zBC_85]
    refine fu_up h C (fun s hs => (hBC s hs).2) 0 (Nat.zero_le _) _ (fun s hs => ?_)
    rw [zPk_0]
    unfold upd
    by_cases h0 : s = 0
    · rw [if_pos h0, if_pos h0]
      rfl
    · rw [if_neg h0, if_neg h0, (hBC s (by omega)).1]
      rfl
  · intro k hk ih B C hBC
    refine bX4_fill_7 _ _ _ _ ?_
    have e : ¬ (256 : Int32) ≤ nI k := by
      show ¬ nI 256 ≤ nI k
      rw [zb_le (by decide) (by omega)]
      omega
    rw [if_neg e]
    refine ⟨_, fr_84_0.rd, zWd I (zBC A (upd B k 0) C) t, (ar_85.wr hk).trans (by rw [zBC_s85, zBC_85]), _, fr_84_1.rd, zWd I (zBC A (upd B k 0) (upd C k 0)) t, (ar_86.wr hk).trans (by rw [zBC_s86, zBC_86]), ?_⟩
    rw [nI_1]
    refine ih _ _ (fun s hs => ?_)
    unfold upd
    by_cases hse : s = k
    · rw [if_pos hse, if_pos hse]
      exact ⟨rfl, rfl⟩
    · rw [if_neg hse, if_neg hse]
      exact hBC s (by omega)
theorem zBC_id (A : zF2) : zBC A (A 85) (A 86) = A := by
  funext j
  unfold zBC va_up
  by_cases h1 : j = 86
  · rw [if_pos h1, h1]
  · rw [if_neg h1]
    by_cases h2 : j = 85
    · rw [if_pos h2, h2]
    · rw [if_neg h2]
theorem v_fill (h : zOR I A q n u) : zEv X 2 0 0 MX4_fill [.ref 84, .ref q] (zWd I A t) (fun v w1 => v = none ∧ ∃ B C, w1 = zWd I (zBC A B C) t ∧ zLn (zBC A B C) n u) := by
  refine eX4_fill _ _ (bX4_fill_0 _ _ (zvRd h.1.ob (v_all h) (by decide) ?_))
  have h0 := fe_empty (X := X) (t := t) h 0 (Nat.zero_le _) (A 85) (A 86) (fun s hs => absurd hs (Nat.not_lt_zero _))
  rw [zBC_id] at h0
  exact h0
end ZFi
