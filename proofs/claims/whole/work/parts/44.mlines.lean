/-! ===== the reference's lines ===== -/
theorem zMR.up {A : zF2} {s n R : Nat} {u : Nat → Nat} {h : Nat → Nat → Nat} (H : zMR A s n u R h) {p : Nat} {f : Nat → Int32} (hp : p ≠ 99) : zMR (va_up A p f) s n u R h := by
  have e : va_up A p f 99 = A 99 := zup_ne (fun q => hp q.symm)
  unfold zMR
  rw [e]
  exact H
abbrev zMC (A : zF2) (B C : Nat → Int32) : zF2 := va_up (va_up A 104 B) 105 C
theorem zMC_104 (A : zF2) (B C : Nat → Int32) : zMC A B C 104 = B := by unfold zMC; rw [zup_ne (by decide), zup_eq]
theorem zMC_105 (A : zF2) (B C : Nat → Int32) : zMC A B C 105 = C := zup_eq
theorem zMC_s104 (A : zF2) (B C B' : Nat → Int32) : va_up (zMC A B C) 104 B' = zMC A B' C := by
  funext j
  unfold zMC va_up
  by_cases h : j = 104
  · subst h
    simp
  · by_cases h2 : j = 105
    · subst h2
      simp
    · simp [h, h2]
theorem zMC_s105 (A : zF2) (B C C' : Nat → Int32) : va_up (zMC A B C) 105 C' = zMC A B C' := by unfold zMC; rw [bx_uu]
theorem zMC_H {A : zF2} {s n R : Nat} {u : Nat → Nat} {h : Nat → Nat → Nat} (H : zMR A s n u R h) (B C : Nat → Int32) : zMR (zMC A B C) s n u R h := (H.up (p := 104) (by decide)).up (p := 105) (by decide)
theorem zMC_id (A : zF2) : zMC A (A 104) (A 105) = A := by
  funext j
  unfold zMC va_up
  by_cases h1 : j = 105
  · rw [if_pos h1, h1]
  · rw [if_neg h1]
    by_cases h2 : j = 104
    · rw [if_pos h2, h2]
    · rw [if_neg h2]
abbrev zIf (I : zF2) (k : Nat) (x : Int32) : zF2 := va_up I 98 (upd (I 98) k x)
theorem zIf_eq (I : zF2) (k : Nat) (x : Int32) : zIf I k x 98 k = x := by simp [zIf, va_up, upd]
theorem zIf_ne (I : zF2) {k j : Nat} (x : Int32) (h : j ≠ k) : zIf I k x 98 j = I 98 j := by simp [zIf, va_up, upd, h]
/-- the reference's tables -/
def zLm (I A : zF2) (n : Nat) (u : Nat → Nat) : Prop := I 98 16 = nI (2 ^ n - 1) ∧ ∀ s, s < 2 ^ n → A 104 s = nI (zFl n u s) ∧ A 105 s = nI (zGl n u s)
def zQm (I A : zF2) (t : zW) (n : Nat) (u : Nat → Nat) : Option Value → zW → Prop := fun v w1 => v = none ∧ ∃ B C, w1 = zWd I (zMC A B C) t ∧ zLm I (zMC A B C) n u
section ZML
variable {X : zX} {I A : zF2} {t : zW} {s n R : Nat} {u : Nat → Nat} {h : Nat → Nat → Nat}
theorem md_in (H : zMR A s n u R h) (hI : I 98 16 = nI (2 ^ n - 1)) (B : Nat → Int32) {k : Nat} (hk : k < 2 ^ n)
    (leave : ∀ C : Nat → Int32, (∀ m, m < 2 ^ n → k ≤ m → C m = nI (zGl n u m)) → zRn X 2 0 0 MX12_laysLines 117 [some (.ref 98), some (.int (nI s)), some (.int (nI k - 1)), none, none] [] (zWd I (zMC A B C) t) (zQm I A t n u)) :
    ∀ j, j ≤ n → ∀ C : Nat → Int32, (∀ m, m < 2 ^ n → k < m → C m = nI (zGl n u m)) → C k = nI ((if k = 2 ^ n - 1 then 1 else 0) + zsm j (zWG n u k)) → zRn X 2 0 0 MX12_laysLines 142 [some (.ref 98), some (.int (nI s)), some (.int (nI k)), some (.int (nI j)), none] [] (zWd I (zMC A B C) t) (zQm I A t n u) := by
  have h8 := H.2.1.1
  have h28 := z28 h8
  refine zdown ?_ ?_
  · intro C hC hCk
    refine bX12_laysLines_142 _ _ _ _ (zvRd ob_98 (m_many (zMC_H H B C)) (by decide) ?_)
    rw [if_pos (Int32.le_refl _)]
    refine leave C (fun m hm hkm => ?_)
    by_cases e : k = m
    · subst e
      rw [hCk, zGl_eq h8 hm]
      rfl
    · exact hC m hm (by omega)
  · intro j hj ih C hC hCk
    refine bX12_laysLines_142 _ _ _ _ (zvRd ob_98 (m_many (zMC_H H B C)) (by decide) ?_)
    rw [zi_le (by omega) (by omega), if_neg (by omega)]
    have hu := H.2.1.u31 j
    have go : ∀ x : Nat, x = zWG n u k j → zRn X 2 0 0 MX12_laysLines 193 [some (.ref 98), some (.int (nI s)), some (.int (nI k)), some (.int (nI j)), none] [.int (nI x), .int (C k), .int (nI k), .ref 105] (zWd I (zMC A B C) t) (zQm I A t n u) := by
      intro x hx
      refine bX12_laysLines_193 _ _ _ _ _ _ _ _ ⟨_, ar_105.wr (by omega), ?_⟩
      rw [zMC_s105, zMC_105, nI_1]
      refine ih _ (fun m hm hkm => ?_) ?_
      · unfold upd
        rw [if_neg (by omega)]
        exact hC m hm hkm
      · unfold upd
        rw [if_pos rfl, hCk, nI_add, zsm_s, hx, Nat.add_assoc]
    refine ⟨_, fr_98_15.rd, _, (ar_105.rd (by omega)).trans (by rw [zMC_105]), zcRd (m_has (by omega) (by omega)) (by decide) ?_⟩
    rw [zB_if]
    by_cases hb : k.testBit j = true
    · rw [if_pos hb]
      refine bX12_laysLines_192 _ _ _ _ _ _ _ ?_
      refine go 0 ?_
      unfold zWG zcf
      rw [hb]
      simp
    · rw [if_neg hb]
      refine zvRd ob_98 (m_under (zMC_H H B C) (by omega)) (by decide) ?_
      have hz : zdf (u j) k < 2 ^ 8 := zdf_lt hu
      rw [zb_df, zi_0 (by omega)]
      by_cases h0 : zdf (u j) k = 0
      · rw [if_pos h0]
        have hc : zcf n u k j = true := by
          unfold zcf
          simp [hj, hb, h0]
        have hlt := zor_lt hk hj
        have hgt : k < k ||| 2 ^ j := by
          have h1 := zdf_l (k ||| 2 ^ j) (by omega) j (by omega) (by rw [Nat.testBit_or, Nat.testBit_two_pow_self]; simp)
          rw [zo_df k j (zcf_s hc).2.1] at h1
          exact h1
        have e2 : zaI (zWd I (zMC A B C) t) 105 (nI k ||| (1 : Int32) <<< (nI j &&& 31)) = some (nI (zWG n u k j)) := by
          rw [zb_1 j (by omega), zb_or]
          refine (ar_105.rd (by omega)).trans ?_
          unfold zWG
          rw [zMC_105, hC _ hlt hgt, if_pos hc]
        exact ⟨_, fr_98_15.rd, _, e2, go _ rfl⟩
      · rw [if_neg h0]
        refine bX12_laysLines_192 _ _ _ _ _ _ _ ?_
        refine go 0 ?_
        unfold zWG zcf
        simp [h0]
theorem md_down (H : zMR A s n u R h) (hI : I 98 16 = nI (2 ^ n - 1)) (B : Nat → Int32) (hB : ∀ m, m < 2 ^ n → B m = nI (zFl n u m)) : ∀ k, k ≤ 2 ^ n → ∀ C : Nat → Int32, (∀ m, m < 2 ^ n → k ≤ m → C m = nI (zGl n u m)) → zRn X 2 0 0 MX12_laysLines 117 [some (.ref 98), some (.int (nI s)), some (.int (nI k - 1)), none, none] [] (zWd I (zMC A B C) t) (zQm I A t n u) := by
  have h8 := H.2.1.1
  have h28 := z28 h8
  intro k
  induction k with
  | zero =>
    intro _ C hC
    refine bX12_laysLines_117 _ _ _ ?_
    rw [if_pos (by decide)]
    refine ⟨rfl, B, C, rfl, hI, fun m hm => ?_⟩
    rw [zMC_104, zMC_105]
    exact ⟨hB m hm, hC m hm (Nat.zero_le _)⟩
  | succ k ih =>
    intro hk C hC
    refine bX12_laysLines_117 _ _ _ ?_
    have e1 : nI (k + 1) - 1 = nI k := by show nI (k + 1) - nI 1 = _; rw [pk_sub (by omega), Nat.add_sub_cancel]
    rw [e1, if_neg (nI_pos (by omega))]
    refine ⟨_, fr_98_15.rd, _, fi_98_16.rd, ?_⟩
    have go : ∀ x : Nat, x = (if k = 2 ^ n - 1 then 1 else 0) → zRn X 2 0 0 MX12_laysLines 139 [some (.ref 98), some (.int (nI s)), some (.int (nI k)), none, none] [.int (nI x), .int (nI k), .ref 105] (zWd I (zMC A B C) t) (zQm I A t n u) := by
      intro x hx
      refine bX12_laysLines_139 _ _ _ _ _ _ ⟨_, ar_105.wr (by omega), ?_⟩
      rw [zMC_s105, zMC_105]
      refine md_in H hI B (by omega) (fun C hC => ih (by omega) C hC) 0 (Nat.zero_le _) _ (fun m hm hkm => ?_) ?_
      · unfold upd
        rw [if_neg (by omega)]
        exact hC m hm (by omega)
      · unfold upd
        rw [if_pos rfl, zsm_z, Nat.add_zero, hx]
    rw [hI, zi_eq (by omega) (by omega)]
    by_cases e : k = 2 ^ n - 1
    · rw [if_pos e]
      exact go 1 (by rw [if_pos e])
    · rw [if_neg e]
      exact go 0 (by rw [if_neg e])
theorem mu_in (H : zMR A s n u R h) (hI : I 98 16 = nI (2 ^ n - 1)) (C : Nat → Int32) {k : Nat} (hk : k < 2 ^ n)
    (leave : ∀ B : Nat → Int32, (∀ m, m < k + 1 → B m = nI (zFl n u m)) → zRn X 2 0 0 MX12_laysLines 15 [some (.ref 98), some (.int (nI s)), some (.int (nI (k + 1))), none, none] [] (zWd I (zMC A B C) t) (zQm I A t n u)) :
    ∀ j, j ≤ n → ∀ B : Nat → Int32, (∀ m, m < k → B m = nI (zFl n u m)) → B k = nI ((if k = 0 then 1 else 0) + zsm j (fun a => if zla1 u k a = true then zFl n u (zdf k (2 ^ a)) else 0)) → zRn X 2 0 0 MX12_laysLines 40 [some (.ref 98), some (.int (nI s)), some (.int (nI k)), some (.int (nI j)), none] [] (zWd I (zMC A B C) t) (zQm I A t n u) := by
  have h8 := H.2.1.1
  have h28 := z28 h8
  refine zdown ?_ ?_
  · intro B hB hBk
    refine bX12_laysLines_40 _ _ _ _ (zvRd ob_98 (m_many (zMC_H H B C)) (by decide) ?_)
    rw [if_pos (Int32.le_refl _), nI_1]
    refine leave B (fun m hm => ?_)
    by_cases e : m = k
    · subst e
      rw [hBk, zFl_eq h8 (by omega)]
    · exact hB m (by omega)
  · intro j hj ih B hB hBk
    refine bX12_laysLines_40 _ _ _ _ (zvRd ob_98 (m_many (zMC_H H B C)) (by decide) ?_)
    rw [zi_le (by omega) (by omega), if_neg (by omega)]
    have hu := H.2.1.u31 j
    have go : ∀ x : Nat, x = (if zla1 u k j = true then zFl n u (zdf k (2 ^ j)) else 0) → zRn X 2 0 0 MX12_laysLines 98 [some (.ref 98), some (.int (nI s)), some (.int (nI k)), some (.int (nI j)), none] [.int (nI x), .int (B k), .int (nI k), .ref 104] (zWd I (zMC A B C) t) (zQm I A t n u) := by
      intro x hx
      refine bX12_laysLines_98 _ _ _ _ _ _ _ _ ⟨_, ar_104.wr (by omega), ?_⟩
      rw [zMC_s104, zMC_104, nI_1]
      refine ih _ (fun m hm => ?_) ?_
      · unfold upd
        rw [if_neg (by omega)]
        exact hB m hm
      · unfold upd
        rw [if_pos rfl, hBk, nI_add, zsm_s, hx, Nat.add_assoc]
    refine ⟨_, fr_98_14.rd, _, (ar_104.rd (by omega)).trans (by rw [zMC_104]), zcRd (m_has (by omega) (by omega)) (by decide) ?_⟩
    rw [zB_if]
    by_cases hb : k.testBit j = true
    · rw [if_pos hb]
      refine zvRd ob_98 (m_under (zMC_H H B C) (by omega)) (by decide) ?_
      have hz : zdf (u j) (zdf k (2 ^ j)) < 2 ^ 8 := zdf_lt hu
      have hl := zdf_l k (by omega) j (by omega) hb
      rw [zb_1 j (by omega), zb_df, zb_df, zi_0 (by omega)]
      by_cases h0 : zdf (u j) (zdf k (2 ^ j)) = 0
      · rw [if_pos h0]
        have hc : zla1 u k j = true := by
          unfold zla1
          simp [hb, h0]
        exact ⟨_, fr_98_14.rd, _, (ar_104.rd (by omega)).trans (by rw [zMC_104, hB _ hl]), go _ (by rw [if_pos hc])⟩
      · rw [if_neg h0]
        refine bX12_laysLines_97 _ _ _ _ _ _ _ ?_
        refine go 0 ?_
        unfold zla1
        simp [h0]
    · rw [if_neg hb]
      refine bX12_laysLines_97 _ _ _ _ _ _ _ ?_
      refine go 0 ?_
      unfold zla1
      simp [hb]
theorem mu_up (H : zMR A s n u R h) (hI : I 98 16 = nI (2 ^ n - 1)) (C : Nat → Int32) : ∀ k, k ≤ 2 ^ n → ∀ B : Nat → Int32, (∀ m, m < k → B m = nI (zFl n u m)) → zRn X 2 0 0 MX12_laysLines 15 [some (.ref 98), some (.int (nI s)), some (.int (nI k)), none, none] [] (zWd I (zMC A B C) t) (zQm I A t n u) := by
  have h8 := H.2.1.1
  have h28 := z28 h8
  have hp := Nat.one_le_two_pow (n := n)
  refine zdown ?_ ?_
  · intro B hB
    refine bX12_laysLines_15 _ _ _ ⟨_, fi_98_16.rd, ?_⟩
    rw [hI, zi_lt (by omega) (by omega), if_pos (by omega)]
    refine ⟨_, fi_98_16.rd, ?_⟩
    have h0 := md_down (X := X) (t := t) H hI B hB (2 ^ n) (Nat.le_refl _) C (fun m h1 h2 => by omega)
    rw [show nI (2 ^ n) - 1 = nI (2 ^ n - 1) from pk_sub hp] at h0
    rw [hI]
    exact h0
  · intro k hk ih B hB
    refine bX12_laysLines_15 _ _ _ ⟨_, fi_98_16.rd, ?_⟩
    rw [hI, zi_lt (by omega) (by omega), if_neg (by omega)]
    refine ⟨_, fr_98_14.rd, ?_⟩
    have go : ∀ x : Nat, x = (if k = 0 then 1 else 0) → zRn X 2 0 0 MX12_laysLines 37 [some (.ref 98), some (.int (nI s)), some (.int (nI k)), none, none] [.int (nI x), .int (nI k), .ref 104] (zWd I (zMC A B C) t) (zQm I A t n u) := by
      intro x hx
      refine bX12_laysLines_37 _ _ _ _ _ _ ⟨_, ar_104.wr (by omega), ?_⟩
      rw [zMC_s104, zMC_104]
      refine mu_in H hI C hk (fun B hB => ih B hB) 0 (Nat.zero_le _) _ (fun m hm => ?_) ?_
      · unfold upd
        rw [if_neg (by omega)]
        exact hB m hm
      · unfold upd
        rw [if_pos rfl, zsm_z, Nat.add_zero, hx]
    rw [zi_0 (by omega)]
    by_cases e : k = 0
    · rw [if_pos e]
      exact go 1 (by rw [if_pos e])
    · rw [if_neg e]
      exact go 0 (by rw [if_neg e])
theorem m_laysLines (H : zMR A s n u R h) : zEv X 2 0 0 MX12_laysLines [.ref 98, .int (nI s)] (zWd I A t) (fun v w1 => v = none ∧ ∃ B C, w1 = zWd (zIf I 16 (nI (2 ^ n - 1))) (zMC A B C) t ∧ zLm (zIf I 16 (nI (2 ^ n - 1))) (zMC A B C) n u) := by
  have h8 := H.2.1.1
  have hp := Nat.one_le_two_pow (n := n)
  refine eX12_laysLines _ _ (bX12_laysLines_0 _ _ (zvRd ob_98 (m_many H) (by decide) ⟨_, fi_98_16.wr, ?_⟩))
  have e : (1 : Int32) <<< (nI n &&& 31) - 1 = nI (2 ^ n - 1) := by
    rw [zb_1 n (by omega)]
    exact pk_sub hp
  rw [e]
  have h0 := mu_up (X := X) (t := t) (I := zIf I 16 (nI (2 ^ n - 1))) H (zIf_eq _ _ _) (A 105) 0 (Nat.zero_le _) (A 104) (fun m hm => absurd hm (Nat.not_lt_zero _))
  rw [zMC_id] at h0
  exact h0
theorem m_beforeOf (H : zMR A s n u R h) (hL : zLm I A n u) {a b : Nat} (ha : a < n) (hb : b < n) : zRd X 3 MX12_beforeOf [.ref 98, .int (nI s), .int (nI a), .int (nI b)] (zWd I A t) (nI (zBf n u a b)) := by
  have h8 := H.2.1.1
  have h28 := z28 h8
  have hp := Nat.one_le_two_pow (n := n)
  refine eX12_beforeOf _ _ _ _ (bX12_beforeOf_0 _ _ _ _ ?_)
  refine zdown (P := fun k => zRn X 3 0 0 MX12_beforeOf 6 [some (.ref 98), some (.int (nI s)), some (.int (nI a)), some (.int (nI b)), some (.int (nI (zsm k (fun s => if s.testBit a = true ∧ zcf n u s b = true ∧ zid n u s = true then zFl n u s * zGl n u (s ||| 2 ^ b) else 0)))), some (.int (nI k)), none] [] (zWd I A t) _) (n := 2 ^ n) ?_ (fun k hk ih => ?_) 0 (Nat.zero_le _)
  · refine bX12_beforeOf_6 _ _ _ _ _ _ ⟨_, fi_98_16.rd, ?_⟩
    rw [hL.1, zi_lt (by omega) (by omega), if_pos (by omega)]
    exact ⟨rfl, rfl⟩
  · refine bX12_beforeOf_6 _ _ _ _ _ _ ⟨_, fi_98_16.rd, ?_⟩
    rw [hL.1, zi_lt (by omega) (by omega), if_neg (by omega)]
    rw [zsm_s] at ih
    generalize zsm k (fun s => if s.testBit a = true ∧ zcf n u s b = true ∧ zid n u s = true then zFl n u s * zGl n u (s ||| 2 ^ b) else 0) = S at *
    have no : ¬ (k.testBit a = true ∧ zcf n u k b = true ∧ zid n u k = true) → zRn X 3 0 0 MX12_beforeOf 61 [some (.ref 98), some (.int (nI s)), some (.int (nI a)), some (.int (nI b)), some (.int (nI S)), some (.int (nI k)), none] [] (zWd I A t) (fun v w1 => v = some (.int (nI (zBf n u a b))) ∧ w1 = zWd I A t) := by
      intro hno
      rw [if_neg hno, Nat.add_zero] at ih
      refine bX12_beforeOf_61 _ _ _ _ _ _ (bX12_beforeOf_62 _ _ _ _ _ _ _ ?_)
      rw [if_pos rfl]
      refine bX12_beforeOf_94 _ _ _ _ _ _ _ ?_
      show zRn X 3 0 0 _ _ [_, _, _, _, some (.int (nI S + nI 0)), _, _] _ _ _
      rw [nI_add, Nat.add_zero, nI_1]
      exact ih
    refine zcRd (m_has (by omega) (by omega)) (by decide) ?_
    rw [zB_if]
    by_cases c1 : k.testBit a = true
    · rw [if_pos c1]
      refine zcRd (m_has (by omega) (by omega)) (by decide) ?_
      rw [zB_if]
      by_cases c2 : k.testBit b = true
      · rw [if_pos c2]
        exact no (fun z => by rw [(zcf_s z.2.1).2.1] at c2; cases c2)
      · rw [if_neg c2]
        refine zvRd ob_98 (m_under H (by omega)) (by decide) ?_
        have hz : zdf (u b) k < 2 ^ 8 := zdf_lt (H.2.1.u31 b)
        rw [zb_df, zi_0 (by omega)]
        by_cases c3 : zdf (u b) k = 0
        · rw [if_pos c3]
          refine zvRd ob_98 (m_isIdeal H (by omega)) (by decide) ?_
          have hc : zcf n u k b = true := by
            unfold zcf
            simp [hb, c2, c3]
          rw [zB_if]
          by_cases c4 : zid n u k = true
          · rw [if_pos c4]
            rw [if_pos ⟨c1, hc, c4⟩] at ih
            have hlt := zor_lt hk hb
            have e2 : zaI (zWd I A t) 105 (nI k ||| (1 : Int32) <<< (nI b &&& 31)) = some (nI (zGl n u (k ||| 2 ^ b))) := by
              rw [zb_1 b (by omega), zb_or]
              exact (ar_105.rd (by omega)).trans (by rw [(hL.2 _ hlt).2])
            refine bX12_beforeOf_62 _ _ _ _ _ _ _ ?_
            rw [if_neg (by decide)]
            refine ⟨_, fr_98_14.rd, _, (ar_104.rd (by omega)).trans (by rw [(hL.2 k hk).1]), _, fr_98_15.rd, _, e2, ?_⟩
            refine bX12_beforeOf_94 _ _ _ _ _ _ _ ?_
            rw [pk_mul, nI_add, nI_1]
            exact ih
          · rw [if_neg c4]
            exact no (fun z => c4 z.2.2)
        · rw [if_neg c3]
          exact no (fun z => c3 (zcf_s z.2.1).2.2)
    · rw [if_neg c1]
      exact no (fun z => c1 z.1)
theorem m_atOf (H : zMR A s n u R h) (hL : zLm I A n u) {a i : Nat} (ha : a < n) (hi : i < 32) : zRd X 3 MX12_atOf [.ref 98, .int (nI s), .int (nI a), .int (nI i)] (zWd I A t) (nI (zAt n u a i)) := by
  have h8 := H.2.1.1
  have h28 := z28 h8
  have hp := Nat.one_le_two_pow (n := n)
  refine eX12_atOf _ _ _ _ (bX12_atOf_0 _ _ _ _ ?_)
  refine zdown (P := fun k => zRn X 3 0 0 MX12_atOf 6 [some (.ref 98), some (.int (nI s)), some (.int (nI a)), some (.int (nI i)), some (.int (nI (zsm k (fun s => if zpc s = i ∧ zcf n u s a = true ∧ zid n u s = true then zFl n u s * zGl n u (s ||| 2 ^ a) else 0)))), some (.int (nI k)), none] [] (zWd I A t) _) (n := 2 ^ n) ?_ (fun k hk ih => ?_) 0 (Nat.zero_le _)
  · refine bX12_atOf_6 _ _ _ _ _ _ ⟨_, fi_98_16.rd, ?_⟩
    rw [hL.1, zi_lt (by omega) (by omega), if_pos (by omega)]
    exact ⟨rfl, rfl⟩
  · refine bX12_atOf_6 _ _ _ _ _ _ ⟨_, fi_98_16.rd, ?_⟩
    have hpc := zpc8 k
    rw [hL.1, zi_lt (by omega) (by omega), if_neg (by omega)]
    rw [zsm_s] at ih
    generalize zsm k (fun s => if zpc s = i ∧ zcf n u s a = true ∧ zid n u s = true then zFl n u s * zGl n u (s ||| 2 ^ a) else 0) = S at *
    have no : ¬ (zpc k = i ∧ zcf n u k a = true ∧ zid n u k = true) → zRn X 3 0 0 MX12_atOf 61 [some (.ref 98), some (.int (nI s)), some (.int (nI a)), some (.int (nI i)), some (.int (nI S)), some (.int (nI k)), none] [] (zWd I A t) (fun v w1 => v = some (.int (nI (zAt n u a i))) ∧ w1 = zWd I A t) := by
      intro hno
      rw [if_neg hno, Nat.add_zero] at ih
      refine bX12_atOf_61 _ _ _ _ _ _ (bX12_atOf_62 _ _ _ _ _ _ _ ?_)
      rw [if_pos rfl]
      refine bX12_atOf_94 _ _ _ _ _ _ _ ?_
      show zRn X 3 0 0 _ _ [_, _, _, _, some (.int (nI S + nI 0)), _, _] _ _ _
      rw [nI_add, Nat.add_zero, nI_1]
      exact ih
    refine zcRd (m_ones (by omega)) (by decide) ?_
    rw [zi_eq (by omega) (by omega)]
    by_cases c1 : zpc k = i
    · rw [if_pos c1]
      refine zcRd (m_has (by omega) (by omega)) (by decide) ?_
      rw [zB_if]
      by_cases c2 : k.testBit a = true
      · rw [if_pos c2]
        exact no (fun z => by rw [(zcf_s z.2.1).2.1] at c2; cases c2)
      · rw [if_neg c2]
        refine zvRd ob_98 (m_under H (by omega)) (by decide) ?_
        have hz : zdf (u a) k < 2 ^ 8 := zdf_lt (H.2.1.u31 a)
        rw [zb_df, zi_0 (by omega)]
        by_cases c3 : zdf (u a) k = 0
        · rw [if_pos c3]
          refine zvRd ob_98 (m_isIdeal H (by omega)) (by decide) ?_
          have hc : zcf n u k a = true := by
            unfold zcf
            simp [ha, c2, c3]
          rw [zB_if]
          by_cases c4 : zid n u k = true
          · rw [if_pos c4]
            rw [if_pos ⟨c1, hc, c4⟩] at ih
            have hlt := zor_lt hk ha
            have e2 : zaI (zWd I A t) 105 (nI k ||| (1 : Int32) <<< (nI a &&& 31)) = some (nI (zGl n u (k ||| 2 ^ a))) := by
              rw [zb_1 a (by omega), zb_or]
              exact (ar_105.rd (by omega)).trans (by rw [(hL.2 _ hlt).2])
            refine bX12_atOf_62 _ _ _ _ _ _ _ ?_
            rw [if_neg (by decide)]
            refine ⟨_, fr_98_14.rd, _, (ar_104.rd (by omega)).trans (by rw [(hL.2 k hk).1]), _, fr_98_15.rd, _, e2, ?_⟩
            refine bX12_atOf_94 _ _ _ _ _ _ _ ?_
            rw [pk_mul, nI_add, nI_1]
            exact ih
          · rw [if_neg c4]
            exact no (fun z => c4 z.2.2)
        · rw [if_neg c3]
          exact no (fun z => c3 (zcf_s z.2.1).2.2)
    · rw [if_neg c1]
      exact no (fun z => c1 z.1)
end ZML
