/-! ===== what hangs together ===== -/
def zN (n : Nat) (u : Nat → Nat) (b : Nat) : Nat := u b ||| zov n u b
theorem zN_lt {n : Nat} {u : Nat → Nat} (h : zPo n u) (b : Nat) : zN n u b < 2 ^ n := Nat.or_lt_two_pow (h.2.1 b) (zov_lt n u b)
def zgi (N : Nat → Nat) (s : Nat) : Nat → Nat := zit (fun m x => if x.testBit m = true then x ||| N m else x) s
def zJi (N : Nat → Nat) (s : Nat) : Nat → Nat := zit (fun m x => x ||| (if s.testBit m = true then N m else 0)) s
theorem zgi_s (N : Nat → Nat) (s k : Nat) : zgi N s (k + 1) = if (zgi N s k).testBit k = true then zgi N s k ||| N k else zgi N s k := rfl
theorem zJi_s (N : Nat → Nat) (s k : Nat) : zJi N s (k + 1) = zJi N s k ||| (if s.testBit k = true then N k else 0) := rfl
def zsb (a b : Nat) : Prop := ∀ i, a.testBit i = true → b.testBit i = true
theorem zsb_or {a b c : Nat} (h : zsb a c) (g : zsb b c) : zsb (a ||| b) c := fun i hi => by
  rw [Nat.testBit_or, Bool.or_eq_true] at hi
  rcases hi with q | q
  · exact h i q
  · exact g i q
theorem zsb_l (a b : Nat) : zsb a (a ||| b) := fun i hi => by rw [Nat.testBit_or, hi]; rfl
theorem zsb_r (a b : Nat) : zsb b (a ||| b) := fun i hi => by rw [Nat.testBit_or, hi, Bool.or_true]
theorem zsb_eq {a b : Nat} (h : zsb a b) (g : zsb b a) : a = b := zext (fun i => by
  rw [Bool.eq_iff_iff]
  exact ⟨h i, g i⟩)
theorem zgi_sub (N : Nat → Nat) (s : Nat) : ∀ k, zsb s (zgi N s k)
  | 0 => fun _ h => h
  | k + 1 => fun i hi => by
    rw [zgi_s]
    split
    · exact zsb_l _ _ i (zgi_sub N s k i hi)
    · exact zgi_sub N s k i hi
theorem zgi_up (N : Nat → Nat) (s : Nat) : ∀ k b, b < k → s.testBit b = true → zsb (N b) (zgi N s k)
  | 0, b, h, _ => absurd h (Nat.not_lt_zero _)
  | k + 1, b, h, hb => fun i hi => by
    rw [zgi_s]
    rcases Nat.lt_or_ge b k with q | q
    · have := zgi_up N s k b q hb i hi
      split
      · exact zsb_l _ _ i this
      · exact this
    · have : b = k := by omega
      subst this
      rw [if_pos (zgi_sub N s b b hb)]
      exact zsb_r _ _ i hi
theorem zgi_lt {n : Nat} {N : Nat → Nat} (hN : ∀ b, N b < 2 ^ n) {s : Nat} (hs : s < 2 ^ n) : ∀ k, zgi N s k < 2 ^ n
  | 0 => hs
  | k + 1 => by
    rw [zgi_s]
    split
    · exact Nat.or_lt_two_pow (zgi_lt hN hs k) (hN k)
    · exact zgi_lt hN hs k
/-- closed under what hangs on its members -/
def zcd (n : Nat) (N : Nat → Nat) (s : Nat) : Prop := ∀ b, b < n → s.testBit b = true → zsb (N b) s
theorem zgi_cl {n : Nat} {N : Nat → Nat} {s T : Nat} (hT : zcd n N T) (hs : zsb s T) : ∀ k, k ≤ n → zsb (zgi N s k) T
  | 0, _ => hs
  | k + 1, hk => by
    rw [zgi_s]
    have ih := zgi_cl hT hs k (by omega)
    split
    · rename_i hb
      exact zsb_or ih (hT k (by omega) (ih k hb))
    · exact ih
theorem zJi_cl {n : Nat} {N : Nat → Nat} {s T : Nat} (hT : zcd n N T) (hs : zsb s T) : ∀ k, k ≤ n → zsb (zJi N s k) T
  | 0, _ => hs
  | k + 1, hk => by
    rw [zJi_s]
    have ih := zJi_cl hT hs k (by omega)
    split
    · rename_i hb
      exact zsb_or ih (hT k (by omega) (hs k hb))
    · rw [Nat.or_zero]
      exact ih
theorem zJi_sub (N : Nat → Nat) (s : Nat) : ∀ k, zsb s (zJi N s k)
  | 0 => fun _ h => h
  | k + 1 => fun i hi => by
    rw [zJi_s]
    exact zsb_l _ _ i (zJi_sub N s k i hi)
theorem zJi_up (N : Nat → Nat) (s : Nat) : ∀ k b, b < k → s.testBit b = true → zsb (N b) (zJi N s k)
  | 0, b, h, _ => absurd h (Nat.not_lt_zero _)
  | k + 1, b, h, hb => fun i hi => by
    rw [zJi_s]
    rcases Nat.lt_or_ge b k with q | q
    · exact zsb_l _ _ i (zJi_up N s k b q hb i hi)
    · have : b = k := by omega
      subst this
      rw [if_pos hb]
      exact zsb_r _ _ i hi
theorem zJi_lt {n : Nat} {N : Nat → Nat} (hN : ∀ b, N b < 2 ^ n) {s : Nat} (hs : s < 2 ^ n) : ∀ k, zJi N s k < 2 ^ n
  | 0 => hs
  | k + 1 => by
    rw [zJi_s]
    refine Nat.or_lt_two_pow (zJi_lt hN hs k) ?_
    split
    · exact hN k
    · exact Nat.two_pow_pos n
/-- those that hang together with a: the class's rounds -/
def zCr (n : Nat) (u : Nat → Nat) (a : Nat) : Nat → Nat := zit (fun _ x => zgi (zN n u) x n) (2 ^ a)
theorem zCr_s (n : Nat) (u : Nat → Nat) (a k : Nat) : zCr n u a (k + 1) = zgi (zN n u) (zCr n u a k) n := rfl
def zCo (n : Nat) (u : Nat → Nat) (a : Nat) : Nat := zCr n u a n
theorem zCr_lt {n : Nat} {u : Nat → Nat} (h : zPo n u) {a : Nat} (ha : a < n) : ∀ k, zCr n u a k < 2 ^ n
  | 0 => Nat.pow_lt_pow_right (by decide) ha
  | k + 1 => zgi_lt (zN_lt h) (zCr_lt h ha k) n
theorem zCr_a {n : Nat} {u : Nat → Nat} {a : Nat} : ∀ k, (zCr n u a k).testBit a = true
  | 0 => Nat.testBit_two_pow_self
  | k + 1 => zgi_sub _ _ n a (zCr_a k)
theorem zCr_cl {n : Nat} {u : Nat → Nat} {a T : Nat} (hT : zcd n (zN n u) T) (ha : T.testBit a = true) : ∀ k, zsb (zCr n u a k) T
  | 0 => fun i hi => by
    rw [show zCr n u a 0 = 2 ^ a from rfl, Nat.testBit_two_pow, decide_eq_true_eq] at hi
    rw [← hi]
    exact ha
  | k + 1 => zgi_cl hT (zCr_cl hT ha k) n (Nat.le_refl _)
theorem zpc_1 : ∀ a, a < 8 → zpc (2 ^ a) = 1 := by decide +kernel
theorem zpc_le {n s : Nat} (hn : n ≤ 8) (hs : s < 2 ^ n) : zpc s ≤ n := by
  have h8 := z28 hn
  have h1 : zpc s ≤ zpc (2 ^ n - 1) := zpc_mono (by omega) (by omega) (fun i hi => by
    rw [Nat.testBit_two_pow_sub_one]
    rcases Nat.lt_or_ge i n with q | q
    · simp [q]
    · rw [zbit_hi hs q] at hi
      cases hi)
  rw [zpc_full n hn] at h1
  exact h1
theorem zncd {n : Nat} {N : Nat → Nat} {s : Nat} (h : ¬ zcd n N s) : ∃ b, b < n ∧ s.testBit b = true ∧ ∃ i, (N b).testBit i = true ∧ s.testBit i = false := by
  apply Classical.byContradiction
  intro hn
  apply h
  intro b hb hsb i hi
  cases hc : s.testBit i
  · exact absurd ⟨b, hb, hsb, i, hi, hc⟩ hn
  · rfl
theorem zCr_gr {n : Nat} {u : Nat → Nat} (h : zPo n u) {a : Nat} (ha : a < n) : ∀ k, zcd n (zN n u) (zCr n u a k) ∨ k + 1 ≤ zpc (zCr n u a k)
  | 0 => by
    right
    show 1 ≤ zpc (2 ^ a)
    have := h.1
    rw [zpc_1 a (by omega)]
    omega
  | k + 1 => by
    have h8 := z28 h.1
    have l1 := zCr_lt h ha k
    have l2 := zCr_lt h ha (k + 1)
    rw [zCr_s]
    rw [zCr_s] at l2
    by_cases hc : zcd n (zN n u) (zCr n u a k)
    · left
      have e : zgi (zN n u) (zCr n u a k) n = zCr n u a k := zsb_eq (zgi_cl hc (fun _ q => q) n (Nat.le_refl _)) (zgi_sub _ _ n)
      rw [e]
      exact hc
    · right
      rcases zCr_gr h ha k with q | q
      · exact absurd q hc
      · obtain ⟨b, hb, hsb, i, hi, hni⟩ := zncd hc
        have h1 := zgi_up (zN n u) (zCr n u a k) n b hb hsb i hi
        have := zpc_lt (a := zCr n u a k) (b := zgi (zN n u) (zCr n u a k) n) (by omega) (by omega) (zgi_sub _ _ n) h1 hni
        omega
theorem zCo_cd {n : Nat} {u : Nat → Nat} (h : zPo n u) {a : Nat} (ha : a < n) : zcd n (zN n u) (zCo n u a) := by
  rcases zCr_gr h ha n with q | q
  · exact q
  · have := zpc_le h.1 (zCr_lt h ha n)
    omega
theorem zCo_is {n : Nat} {u : Nat → Nat} (h : zPo n u) {a T : Nat} (ha : a < n) (h1 : T.testBit a = true) (h2 : zcd n (zN n u) T) (h3 : ∀ T', zcd n (zN n u) T' → T'.testBit a = true → zsb T T') : T = zCo n u a := zsb_eq (h3 _ (zCo_cd h ha) (zCr_a n)) (zCr_cl h2 h1 n)
def zhg (n : Nat) (u : Nat → Nat) : Nat → Nat × Nat := zit (fun a x => if x.1.testBit a = true then x else (x.1 ||| zCo n u a, x.2 + 1)) (0, 0)
theorem zhg_s (n : Nat) (u : Nat → Nat) (k : Nat) : zhg n u (k + 1) = if (zhg n u k).1.testBit k = true then zhg n u k else ((zhg n u k).1 ||| zCo n u k, (zhg n u k).2 + 1) := rfl
theorem zhg_lt {n : Nat} {u : Nat → Nat} (h : zPo n u) : ∀ k, k ≤ n → (zhg n u k).1 < 2 ^ n
  | 0, _ => Nat.two_pow_pos n
  | k + 1, hk => by
    rw [zhg_s]
    split
    · exact zhg_lt h k (by omega)
    · exact Nat.or_lt_two_pow (zhg_lt h k (by omega)) (zCr_lt h (by omega) n)
section ZHg
variable {X : zX} {I A : zF2} {t : zW} {q n : Nat} {u : Nat → Nat}
theorem v_hangingWith (h : zOR I A q n u) {a : Nat} (ha : a < n) : zRd X 2 MX10_hangingWith [.ref q, .int (nI a)] (zWd I A t) (nI (zCo n u a)) := by
  have h8 := h.n8
  have h28 := z28 h8
  refine eX10_hangingWith _ _ (bX10_hangingWith_0 _ _ ?_)
  rw [zb_1 a (by omega)]
  refine zdown (P := fun k => zRn X 2 0 0 MX10_hangingWith 6 [some (.ref q), none, some (.int (nI (zCr n u a k))), some (.int (nI k)), none] [] (zWd I A t) _) (n := n) ?_ (fun k hk ih => ?_) 0 (Nat.zero_le _)
  · refine bX10_hangingWith_6 _ _ _ (zvRd h.1.ob (v_size h) (by decide) ?_)
    rw [if_pos (Int32.le_refl _)]
    exact ⟨rfl, rfl⟩
  · refine bX10_hangingWith_6 _ _ _ (zvRd h.1.ob (v_size h) (by decide) ?_)
    rw [zi_le (by omega) (by omega), if_neg (by omega)]
    have l1 := zCr_lt h.2.1 ha k
    rw [zCr_s] at ih
    refine zdown (P := fun j => zRn X 2 0 0 MX10_hangingWith 17 [some (.ref q), none, some (.int (nI (zgi (zN n u) (zCr n u a k) j))), some (.int (nI k)), some (.int (nI j))] [] (zWd I A t) _) (n := n) ?_ (fun j hj ihj => ?_) 0 (Nat.zero_le _)
    · refine bX10_hangingWith_17 _ _ _ _ (zvRd h.1.ob (v_size h) (by decide) ?_)
      rw [if_pos (Int32.le_refl _), nI_1]
      exact ih
    · have l2 := zgi_lt (zN_lt h.2.1) l1 j
      refine bX10_hangingWith_17 _ _ _ _ (zvRd h.1.ob (v_size h) (by decide) ?_)
      rw [zi_le (by omega) (by omega), if_neg (by omega), zi_has (by omega) (by omega)]
      rw [zgi_s] at ihj
      by_cases hb : (zgi (zN n u) (zCr n u a k) j).testBit j = true
      · rw [if_pos hb]
        rw [if_pos hb] at ihj
        refine zvRd h.1.ob (v_belowOf h (by omega)) (by decide) (zvRd h.1.ob (v_aboveOf h (by omega)) (by decide) ?_)
        refine bX10_hangingWith_52 _ _ _ _ ?_
        rw [zb_or, zb_or, nI_1]
        exact ihj
      · rw [if_neg hb]
        rw [if_neg hb] at ihj
        refine bX10_hangingWith_52 _ _ _ _ ?_
        rw [nI_1]
        exact ihj
theorem v_hangingParts (h : zOR I A q n u) : zRd X 3 MX10_hangingParts [.ref q] (zWd I A t) (nI (zhg n u n).2) := by
  have h8 := h.n8
  have h28 := z28 h8
  refine eX10_hangingParts _ (bX10_hangingParts_0 _ ?_)
  refine zdown (P := fun k => zRn X 3 0 0 MX10_hangingParts 6 [some (.ref q), some (.int (nI (zhg n u k).1)), some (.int (nI (zhg n u k).2)), some (.int (nI k))] [] (zWd I A t) _) (n := n) ?_ (fun k hk ih => ?_) 0 (Nat.zero_le _)
  · refine bX10_hangingParts_6 _ _ _ _ (zvRd h.1.ob (v_size h) (by decide) ?_)
    rw [if_pos (Int32.le_refl _)]
    exact ⟨rfl, rfl⟩
  · have l1 := zhg_lt h.2.1 k (by omega)
    refine bX10_hangingParts_6 _ _ _ _ (zvRd h.1.ob (v_size h) (by decide) ?_)
    rw [zi_le (by omega) (by omega), if_neg (by omega), zi_no (by omega) (by omega)]
    rw [zhg_s] at ih
    by_cases hb : (zhg n u k).1.testBit k = true
    · rw [if_pos hb]
      rw [if_pos hb] at ih
      refine bX10_hangingParts_33 _ _ _ _ ?_
      rw [nI_1]
      exact ih
    · rw [if_neg hb]
      rw [if_neg hb] at ih
      refine zcRd (v_hangingWith h hk) (by decide) ?_
      refine bX10_hangingParts_33 _ _ _ _ ?_
      rw [zb_or, nI_1, nI_1]
      exact ih
end ZHg
section ZHm
variable {X : zX} {I A : zF2} {t : zW} {s n R : Nat} {u : Nat → Nat} {h : Nat → Nat → Nat}
theorem m_hl (H : zMR A s n u R h) {a c m : Nat} (ha : a < n) {Q : Option Value → zW → Prop} (k : zRn X 4 0 0 MX12_hangs 113 [some (.ref 98), some (.int (nI s)), some (.int (nI c)), some (.int (nI (m ||| zCo n u a))), some (.int (nI a)), none, none, none] [] (zWd I A t) Q) :
    ∀ f T y, T < 2 ^ n → n + 1 ≤ zpc T + f → T.testBit a = true → (∀ T', zcd n (zN n u) T' → T'.testBit a = true → zsb T T') → y < 256 → (y = T → zcd n (zN n u) T) → zRn X 4 0 0 MX12_hangs 41 [some (.ref 98), some (.int (nI s)), some (.int (nI c)), some (.int (nI m)), some (.int (nI a)), some (.int (nI T)), some (.int (nI y)), none] [] (zWd I A t) Q := by
  have h8 := H.2.1.1
  have h28 := z28 h8
  intro f
  induction f with
  | zero =>
    intro T y hT hf
    have := zpc_le h8 hT
    omega
  | succ f ih =>
    intro T y hT hf h1 h2 hy h3
    refine bX12_hangs_41 _ _ _ _ _ _ _ ?_
    rw [zi_eq (by omega) (by omega)]
    by_cases e : y = T
    · rw [if_pos e, zCo_is H.2.1 ha h1 (h3 e) h2, zb_or]
      exact k
    · rw [if_neg e]
      have go : zRn X 4 0 0 MX12_hangs 41 [some (.ref 98), some (.int (nI s)), some (.int (nI c)), some (.int (nI m)), some (.int (nI a)), some (.int (nI (zJi (zN n u) T n))), some (.int (nI T)), none] [] (zWd I A t) Q := by
        have l2 := zJi_lt (zN_lt H.2.1) hT n
        by_cases e2 : zJi (zN n u) T n = T
        · have hc : zcd n (zN n u) T := fun b hb hsb i hi => by
            have := zJi_up (zN n u) T n b hb hsb i hi
            rw [e2] at this
            exact this
          rw [e2]
          refine bX12_hangs_41 _ _ _ _ _ _ _ ?_
          rw [if_pos rfl, zCo_is H.2.1 ha h1 hc h2, zb_or]
          exact k
        · have hsub := zJi_sub (zN n u) T n
          have hex : ∃ i, (zJi (zN n u) T n).testBit i = true ∧ T.testBit i = false := by
            apply Classical.byContradiction
            intro hno
            apply e2
            refine zsb_eq (fun i hi => ?_) hsub
            cases hc : T.testBit i
            · exact absurd ⟨i, hi, hc⟩ hno
            · rfl
          obtain ⟨i, hi1, hi2⟩ := hex
          have := zpc_lt (a := T) (b := zJi (zN n u) T n) (by omega) (by omega) hsub hi1 hi2
          exact ih _ _ l2 (by omega) (hsub a h1) (fun T' c1 c2 => zJi_cl c1 (h2 T' c1 c2) n (Nat.le_refl _)) (by omega) (fun z => absurd z.symm e2)
      refine zdown (P := fun j => zRn X 4 0 0 MX12_hangs 55 [some (.ref 98), some (.int (nI s)), some (.int (nI c)), some (.int (nI m)), some (.int (nI a)), some (.int (nI (zJi (zN n u) T j))), some (.int (nI T)), some (.int (nI j))] [] (zWd I A t) Q) (n := n) ?_ (fun j hj ihj => ?_) 0 (Nat.zero_le _)
      · refine bX12_hangs_55 _ _ _ _ _ _ _ _ (zvRd ob_98 (m_many H) (by decide) ?_)
        rw [if_pos (Int32.le_refl _)]
        exact go
      · refine bX12_hangs_55 _ _ _ _ _ _ _ _ (zvRd ob_98 (m_many H) (by decide) ?_)
        rw [zi_le (by omega) (by omega), if_neg (by omega)]
        rw [zJi_s] at ihj
        refine zcRd (m_has (by omega) (by omega)) (by decide) ?_
        rw [zB_if]
        by_cases hb : T.testBit j = true
        · rw [if_pos hb]
          rw [if_pos hb] at ihj
          refine zvRd ob_98 (m_under H (by omega)) (by decide) (zvRd ob_98 (m_over H (by omega)) (by decide) ?_)
          refine bX12_hangs_96 _ _ _ _ _ _ _ _ _ ?_
          rw [zb_or, zb_or, nI_1]
          exact ihj
        · rw [if_neg hb]
          rw [if_neg hb, Nat.or_zero] at ihj
          refine bX12_hangs_96 _ _ _ _ _ _ _ _ _ ?_
          show zRn X 4 0 0 _ _ [_, _, _, _, _, some (.int (nI _ ||| nI 0)), _, _] _ _ _
          rw [zb_or, Nat.or_zero, nI_1]
          exact ihj
theorem m_hangs (H : zMR A s n u R h) : zRd X 4 MX12_hangs [.ref 98, .int (nI s)] (zWd I A t) (nI (zhg n u n).2) := by
  have h8 := H.2.1.1
  have h28 := z28 h8
  refine eX12_hangs _ _ (bX12_hangs_0 _ _ ?_)
  refine zdown (P := fun k => zRn X 4 0 0 MX12_hangs 7 [some (.ref 98), some (.int (nI s)), some (.int (nI (zhg n u k).2)), some (.int (nI (zhg n u k).1)), some (.int (nI k)), none, none, none] [] (zWd I A t) _) (n := n) ?_ (fun k hk ih => ?_) 0 (Nat.zero_le _)
  · refine bX12_hangs_7 _ _ _ _ _ (zvRd ob_98 (m_many H) (by decide) ?_)
    rw [if_pos (Int32.le_refl _)]
    exact ⟨rfl, rfl⟩
  · have l1 := zhg_lt H.2.1 k (by omega)
    refine bX12_hangs_7 _ _ _ _ _ (zvRd ob_98 (m_many H) (by decide) ?_)
    rw [zi_le (by omega) (by omega), if_neg (by omega)]
    refine zcRd (m_has (by omega) (by omega)) (by decide) ?_
    rw [zB_if]
    rw [zhg_s] at ih
    by_cases hb : (zhg n u k).1.testBit k = true
    · rw [if_pos hb]
      rw [if_pos hb] at ih
      refine bX12_hangs_113 _ _ _ _ _ ?_
      rw [nI_1]
      exact ih
    · rw [if_neg hb]
      rw [if_neg hb] at ih
      rw [zb_1 k (by omega), nI_1]
      refine m_hl H hk ?_ (n + 1) (2 ^ k) 0 (Nat.pow_lt_pow_right (by decide) hk) (by omega) Nat.testBit_two_pow_self (fun T' _ hT i hi => ?_) (by decide) (fun e => by have := Nat.two_pow_pos k; omega)
      · refine bX12_hangs_113 _ _ _ _ _ ?_
        rw [nI_1]
        exact ih
      · rw [Nat.testBit_two_pow, decide_eq_true_eq] at hi
        rw [← hi]
        exact hT
end ZHm
