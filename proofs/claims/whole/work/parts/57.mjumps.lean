/-! ===== jumps: the reference's ===== -/
def zlx (D : Nat → Int32) (u : Nat → Nat) (s l a : Nat) : Int32 := D (8 * (s ||| 2 ^ a) + a) + (if zlt u l a = true then 0 else 1)
def zlS (n : Nat) (u : Nat → Nat) (most : Bool) (D : Nat → Int32) (s l a : Nat) (b : Int32) : Int32 :=
  if zcf n u s a = true then (if b = -1 then zlx D u s l a else if most = true then (if zlx D u s l a ≤ b then b else zlx D u s l a) else (if b ≤ zlx D u s l a then b else zlx D u s l a)) else b
def zlf (n : Nat) (u : Nat → Nat) (most : Bool) (D : Nat → Int32) (s l : Nat) (b0 : Int32) : Nat → Int32 := zit (zlS n u most D s l) b0
theorem zlf_s (n : Nat) (u : Nat → Nat) (most : Bool) (D : Nat → Int32) (s l : Nat) (b0 : Int32) (k : Nat) : zlf n u most D s l b0 (k + 1) = zlS n u most D s l k (zlf n u most D s l b0 k) := rfl
theorem zlf_0 (n : Nat) (u : Nat → Nat) (most : Bool) (D : Nat → Int32) (s l : Nat) (b0 : Int32) : zlf n u most D s l b0 0 = b0 := rfl
theorem zlf_ok {n : Nat} {u : Nat → Nat} {most : Bool} {D : Nat → Int32} {s l : Nat} {V : Nat → Nat → Nat} (hV : ∀ s l, V s l ≤ 9) (hD : ∀ a, zcf n u s a = true → D (8 * (s ||| 2 ^ a) + a) = nI (V (s ||| 2 ^ a) a)) : ∀ k, zlf n u most D s l (-1) k = zPW (zjF n u most V s (some l) k)
  | 0 => rfl
  | k + 1 => by
    rw [zlf_s, zlf_ok hV hD k, zjF_s]
    have hg := zjF_g n u most V s (some l) k
    generalize zjF n u most V s (some l) k = o at *
    unfold zlS zjS
    by_cases hc : zcf n u s k = true
    · rw [if_pos hc, if_pos hc]
      have ex : zlx D u s l k = nI (zjw u V s (some l) k) := by
        unfold zlx zjw zjj
        rw [hD k hc]
        by_cases c : zlt u l k = true
        · rw [if_pos c]
          simp only [c, if_true]
          show nI _ + nI 0 = _
          rw [nI_add, Nat.add_comm]
        · rw [if_neg c]
          simp only [c]
          show nI _ + nI 1 = _
          rw [nI_add, Nat.add_comm]
          rfl
      have hw : zjw u V s (some l) k ≤ 10 := by
        have := zjj_le u (some l) k
        have := hV (s ||| 2 ^ k) k
        unfold zjw
        omega
      rw [ex]
      cases o with
      | none =>
        rw [if_pos (show zPW none = -1 from rfl)]
        rfl
      | some o =>
        obtain ⟨p, x⟩ := o
        obtain ⟨g1, -, g3, -, -⟩ := hg
        have hx : x ≤ 10 := by
          have := zjj_le u (some l) p
          have := hV (s ||| 2 ^ p) p
          unfold zjw at g3
          omega
        have e1 : zPW (some (p, x)) = nI x := rfl
        rw [e1, if_neg (znm1 (by omega))]
        cases most
        · simp only [Bool.false_eq_true, if_false]
          rw [zi_le (by omega) (by omega)]
          by_cases c : x ≤ zjw u V s (some l) k
          · rw [if_pos c, if_neg (by omega)]
            rfl
          · rw [if_neg c, if_pos (by omega)]
            rfl
        · simp only [if_true]
          rw [zi_le (by omega) (by omega)]
          by_cases c : zjw u V s (some l) k ≤ x
          · rw [if_pos c, if_neg (by omega)]
            rfl
          · rw [if_neg c, if_pos (by omega)]
            rfl
    · rw [if_neg hc, if_neg hc]
theorem zlf_fu {n : Nat} {u : Nat → Nat} {most : Bool} {D : Nat → Int32} {l : Nat} {b0 : Int32} : ∀ k, zlf n u most D (2 ^ n - 1) l b0 k = b0
  | 0 => rfl
  | k + 1 => by
    rw [zlf_s, zlf_fu k]
    unfold zlS
    rw [zcf_full, if_neg (by decide)]
theorem zcf_iff {n : Nat} {u : Nat → Nat} {s a : Nat} (ha : a < n) : zcf n u s a = true ↔ (s.testBit a = false ∧ zdf (u a) s = 0) := by
  unfold zcf
  simp [ha]
/-- the reference's table -/
def zJm (D : Nat → Int32) (n : Nat) (u : Nat → Nat) (most : Bool) (k : Nat) : Prop := ∀ s l, k < s → s < 2 ^ n → zid n u s = true → l < n → D (8 * s + l) = nI (zJ n u most s l)
theorem zJm.c {D : Nat → Int32} {n : Nat} {u : Nat → Nat} {most : Bool} {k : Nat} (h : zJm D n u most k) : zJc D n u most k := fun s l h1 h2 h3 h4 _ => h s l h1 h2 h3 h4
section ZMj
variable {X : zX} {I A : zF2} {t : zW} {s n R : Nat} {u : Nat → Nat} {h : Nat → Nat → Nat} {most : Bool}
theorem m_llIn (H : zMR A s n u R h) (D : Nat → Int32) {k l : Nat} (hk : k < 2 ^ n) (hl : l < n) (b0 : Int32) {Q : Option Value → zW → Prop} (g : zRn X 4 0 0 MX12_laysLeaps 17 [some (.ref 98), some (.int (nI s)), some (.int (zB most)), some (.int (nI k)), some (.int (nI (l + 1))), none, none, none, none] [] (zWd I (va_up A 107 (upd D (8 * k + l) (zlf n u most D k l b0 n))) t) Q) :
    zRn X 4 0 0 MX12_laysLeaps 45 [some (.ref 98), some (.int (nI s)), some (.int (zB most)), some (.int (nI k)), some (.int (nI l)), some (.int b0), some (.int 0), none, none] [] (zWd I (va_up A 107 D) t) Q := by
  have h8 := H.2.1.1
  have h28 := z28 h8
  have H1 := H.up (p := 107) (f := D) (by decide)
  refine zdown (P := fun a => zRn X 4 0 0 MX12_laysLeaps 45 [some (.ref 98), some (.int (nI s)), some (.int (zB most)), some (.int (nI k)), some (.int (nI l)), some (.int (zlf n u most D k l b0 a)), some (.int (nI a)), none, none] [] (zWd I (va_up A 107 D) t) Q) (n := n) ?_ (fun a ha ih => ?_) 0 (Nat.zero_le _)
  · refine bX12_laysLeaps_45 _ _ _ _ _ _ _ (zvRd ob_98 (m_many H1) (by decide) ?_)
    rw [if_pos (Int32.le_refl _)]
    refine ⟨_, fr_98_18.rd, zWd I (va_up A 107 (upd D (8 * k + l) (zlf n u most D k l b0 n))) t, ?_, ?_⟩
    · show zsI _ _ (nI 8 * nI k + nI l) _ = _
      rw [pk_mul, nI_add, ar_107.wr (by omega), zup_eq, bx_uu]
    · rw [nI_1]
      exact g
  · rw [zlf_s] at ih
    have hor := zor_lt hk ha
    have hu := H.2.1.u31 a
    have hz : zdf (u a) k < 2 ^ 8 := zdf_lt hu
    refine bX12_laysLeaps_45 _ _ _ _ _ _ _ (zvRd ob_98 (m_many H1) (by decide) ?_)
    rw [zi_le (by omega) (by omega), if_neg (by omega)]
    refine zcRd (m_has (by omega) (by omega)) (by decide) ?_
    rw [zB_if]
    generalize zlf n u most D k l b0 a = b at *
    have no : zcf n u k a = false → zRn X 4 0 0 MX12_laysLeaps 158 [some (.ref 98), some (.int (nI s)), some (.int (zB most)), some (.int (nI k)), some (.int (nI l)), some (.int b), some (.int (nI a)), none, none] [] (zWd I (va_up A 107 D) t) Q := fun hc => by
      unfold zlS at ih
      rw [hc, if_neg (by decide)] at ih
      refine bX12_laysLeaps_158 _ _ _ _ _ _ _ ?_
      rw [nI_1]
      exact ih
    by_cases hb : k.testBit a = true
    · rw [if_pos hb]
      refine no ?_
      cases hc : zcf n u k a
      · rfl
      · have := ((zcf_iff ha).mp hc).1
        rw [hb] at this
        cases this
    · rw [if_neg hb]
      refine zvRd ob_98 (m_under H1 (by omega)) (by decide) ?_
      rw [zb_df, zi_0 (by omega)]
      by_cases h0 : zdf (u a) k = 0
      · rw [if_pos h0]
        have hc : zcf n u k a = true := (zcf_iff ha).mpr ⟨by simpa using hb, h0⟩
        unfold zlS at ih
        rw [if_pos hc] at ih
        refine ⟨_, fr_98_18.rd, D (8 * (k ||| 2 ^ a) + a), ?_, ?_⟩
        · rw [zb_1 a (by omega), zb_or]
          show zaI _ _ (nI 8 * nI (k ||| 2 ^ a) + nI a) = _
          rw [pk_mul, nI_add, ar_107.rd (by omega), zup_eq]
        · refine zvRd ob_98 (m_isBelow H1 (by omega) (by omega)) (by decide) ?_
          have go : ∀ z : Int32, zlx D u k l a = D (8 * (k ||| 2 ^ a) + a) + z → zRn X 4 0 0 MX12_laysLeaps 119 [some (.ref 98), some (.int (nI s)), some (.int (zB most)), some (.int (nI k)), some (.int (nI l)), some (.int b), some (.int (nI a)), none, none] [.int z, .int (D (8 * (k ||| 2 ^ a) + a))] (zWd I (va_up A 107 D) t) Q := fun z hz => by
            refine bX12_laysLeaps_119 _ _ _ _ _ _ _ _ _ ?_
            rw [← hz]
            have take : zRn X 4 0 0 MX12_laysLeaps 45 [some (.ref 98), some (.int (nI s)), some (.int (zB most)), some (.int (nI k)), some (.int (nI l)), some (.int (zlx D u k l a)), some (.int (nI (a + 1))), none, none] [] (zWd I (va_up A 107 D) t) Q → zRn X 4 0 0 MX12_laysLeaps 149 [some (.ref 98), some (.int (nI s)), some (.int (zB most)), some (.int (nI k)), some (.int (nI l)), none, some (.int (nI a)), none, some (.int (zlx D u k l a))] [] (zWd I (va_up A 107 D) t) Q := fun z => by
              refine bX12_laysLeaps_149 _ _ _ _ _ _ _ (bX12_laysLeaps_156 _ _ _ _ _ _ _ (bX12_laysLeaps_158 _ _ _ _ _ _ _ ?_))
              rw [nI_1]
              exact z
            have keep : zRn X 4 0 0 MX12_laysLeaps 45 [some (.ref 98), some (.int (nI s)), some (.int (zB most)), some (.int (nI k)), some (.int (nI l)), some (.int b), some (.int (nI (a + 1))), none, none] [] (zWd I (va_up A 107 D) t) Q → zRn X 4 0 0 MX12_laysLeaps 154 [some (.ref 98), some (.int (nI s)), some (.int (zB most)), some (.int (nI k)), some (.int (nI l)), some (.int b), some (.int (nI a)), none, none] [] (zWd I (va_up A 107 D) t) Q := fun z => by
              refine bX12_laysLeaps_154 _ _ _ _ _ _ _ (bX12_laysLeaps_156 _ _ _ _ _ _ _ (bX12_laysLeaps_158 _ _ _ _ _ _ _ ?_))
              rw [nI_1]
              exact z
            by_cases e1 : b = -1
            · rw [if_pos e1]
              rw [if_pos e1] at ih
              exact take ih
            · rw [if_neg e1, zB_if]
              rw [if_neg e1] at ih
              cases most
              · rw [if_neg (by decide)]
                rw [if_neg (by decide)] at ih
                by_cases c : b ≤ zlx D u k l a
                · rw [if_pos c]
                  rw [if_pos c] at ih
                  exact keep ih
                · rw [if_neg c]
                  rw [if_neg c] at ih
                  exact take ih
              · rw [if_pos rfl]
                rw [if_pos rfl] at ih
                by_cases c : zlx D u k l a ≤ b
                · rw [if_pos c]
                  rw [if_pos c] at ih
                  exact keep ih
                · rw [if_neg c]
                  rw [if_neg c] at ih
                  exact take ih
          rw [zB_if]
          by_cases c : zlt u l a = true
          · rw [if_pos c]
            refine go 0 ?_
            unfold zlx
            rw [if_pos c]
          · rw [if_neg c]
            refine go 1 ?_
            unfold zlx
            rw [if_neg c]
      · rw [if_neg h0]
        refine no ?_
        cases hc : zcf n u k a
        · rfl
        · exact absurd ((zcf_iff ha).mp hc).2 h0
theorem zJm_new (h : zPo n u) {D : Nat → Int32} {k l : Nat} (hk : k < 2 ^ n) (hid : zid n u k = true) (hJ : zJm D n u most k) : zlf n u most D k l (if k = 2 ^ n - 1 then 0 else -1) n = nI (zJ n u most k l) := by
  rw [zJ_eq h.1 hk]
  by_cases e : k = 2 ^ n - 1
  · rw [if_pos e, e, zlf_fu, zjF_fu]
    rfl
  · rw [if_neg e, zlf_ok (zJ_le n u most) (fun a hc => zJc_rd h hJ.c hk (Nat.le_refl _) hid a hc)]
    obtain ⟨p, x, e2⟩ := zjF_ex (most := most) (V := zJ n u most) h hk e (some l)
    rw [e2]
    rfl
theorem m_laysLeaps (H : zMR A s n u R h) : zEv X 4 0 0 MX12_laysLeaps [.ref 98, .int (nI s), .int (zB most)] (zWd I A t) (fun v w1 => v = none ∧ ∃ B C D, w1 = zWd (zIf I 16 (nI (2 ^ n - 1))) (va_up (zMC A B C) 107 D) t ∧ zJm D n u most 0) := by
  have h8 := H.2.1.1
  have h28 := z28 h8
  have hp1 := Nat.one_le_two_pow (n := n)
  refine eX12_laysLeaps _ _ _ (bX12_laysLeaps_0 _ _ _ (zvV ob_98 (m_laysLines H) (by decide) ?_))
  rintro w1 ⟨B, C, rfl, hL⟩
  generalize hI1 : zIf I 16 (nI (2 ^ n - 1)) = I1 at *
  have H2 := zMC_H H B C
  generalize hA1 : zMC A B C = A1 at *
  have key : ∀ k, k ≤ 2 ^ n - 1 → ∀ D : Nat → Int32, zJm D n u most k → zRn X 4 0 0 MX12_laysLeaps 10 [some (.ref 98), some (.int (nI s)), some (.int (zB most)), some (.int (nI k)), none, none, none, none, none] [] (zWd I1 (va_up A1 107 D) t) (fun v w1 => v = none ∧ ∃ B C D, w1 = zWd I1 (va_up (zMC A B C) 107 D) t ∧ zJm D n u most 0) := by
    intro k
    induction k with
    | zero =>
      intro _ D hJ
      refine bX12_laysLeaps_10 _ _ _ _ ?_
      rw [if_pos (by decide)]
      exact ⟨rfl, B, C, D, by rw [hA1], hJ⟩
    | succ k ih =>
      intro hk D hJ
      refine bX12_laysLeaps_10 _ _ _ _ ?_
      show if nI (k + 1) ≤ nI 0 then _ else _
      rw [zi_le (by omega) (by omega), if_neg (by omega)]
      have inner : ∀ l, l ≤ n → ∀ D : Nat → Int32, zJm D n u most (k + 1) → (zid n u (k + 1) = true → ∀ l', l' < l → D (8 * (k + 1) + l') = nI (zJ n u most (k + 1) l')) → zRn X 4 0 0 MX12_laysLeaps 17 [some (.ref 98), some (.int (nI s)), some (.int (zB most)), some (.int (nI (k + 1))), some (.int (nI l)), none, none, none, none] [] (zWd I1 (va_up A1 107 D) t) (fun v w1 => v = none ∧ ∃ B C D, w1 = zWd I1 (va_up (zMC A B C) 107 D) t ∧ zJm D n u most 0) := by
        refine zdown ?_ ?_
        · intro D hJ hl
          have H1 := H2.up (p := 107) (f := D) (by decide)
          refine bX12_laysLeaps_17 _ _ _ _ _ (zvRd ob_98 (m_many H1) (by decide) ?_)
          rw [if_pos (Int32.le_refl _)]
          have e1 : nI (k + 1) - 1 = nI k := by
            show nI (k + 1) - nI 1 = nI k
            rw [pk_sub (by omega)]
            rfl
          rw [e1]
          refine ih (by omega) D (fun s' l' g1 g2 g3 g4 => ?_)
          rcases Nat.lt_or_ge (k + 1) s' with q1 | q1
          · exact hJ s' l' q1 g2 g3 g4
          · have : s' = k + 1 := by omega
            subst this
            exact hl g3 l' g4
        · intro l hl ihl D hJ hD
          have H1 := H2.up (p := 107) (f := D) (by decide)
          refine bX12_laysLeaps_17 _ _ _ _ _ (zvRd ob_98 (m_many H1) (by decide) ?_)
          rw [zi_le (by omega) (by omega), if_neg (by omega)]
          refine ⟨_, fi_98_16.rd, ?_⟩
          rw [hL.1, zi_eq (by omega) (by omega)]
          have go : zRn X 4 0 0 MX12_laysLeaps 45 [some (.ref 98), some (.int (nI s)), some (.int (zB most)), some (.int (nI (k + 1))), some (.int (nI l)), some (.int (if k + 1 = 2 ^ n - 1 then 0 else -1)), some (.int 0), none, none] [] (zWd I1 (va_up A1 107 D) t) (fun v w1 => v = none ∧ ∃ B C D, w1 = zWd I1 (va_up (zMC A B C) 107 D) t ∧ zJm D n u most 0) := by
            refine m_llIn H2 D (by omega) hl _ ?_
            refine ihl _ (fun s' l' g1 g2 g3 g4 => ?_) (fun hid l' g1 => ?_)
            · rw [upd_ne _ _ (by omega)]
              exact hJ s' l' g1 g2 g3 g4
            · by_cases e : l' = l
              · rw [e, upd_eq]
                exact zJm_new H.2.1 (by omega) hid hJ
              · rw [upd_ne _ _ (by omega)]
                exact hD hid l' (by omega)
          by_cases e : k + 1 = 2 ^ n - 1
          · rw [if_pos e]
            rw [if_pos e] at go
            exact bX12_laysLeaps_40 _ _ _ _ _ _ go
          · rw [if_neg e]
            rw [if_neg e] at go
            exact bX12_laysLeaps_40 _ _ _ _ _ _ go
      exact inner 0 (Nat.zero_le _) D hJ (fun _ l' hl' => absurd hl' (Nat.not_lt_zero _))
  refine ⟨_, fi_98_16.rd, ?_⟩
  rw [hL.1]
  have k0 := key (2 ^ n - 1) (Nat.le_refl _) (A1 107) (fun s' l' g1 g2 => by omega)
  rw [zup_self] at k0
  exact k0
abbrev zJA (A1 : zF2) (D M : Nat → Int32) : zF2 := va_up (va_up A1 107 D) 106 M
theorem zJA_106 (A1 : zF2) (D M : Nat → Int32) : zJA A1 D M 106 = M := zup_eq
theorem zJA_107 (A1 : zF2) (D M : Nat → Int32) : zJA A1 D M 107 = D := by unfold zJA; rw [zup_ne (by decide), zup_eq]
theorem zJA_s (A1 : zF2) (D M M' : Nat → Int32) : va_up (zJA A1 D M) 106 M' = zJA A1 D M' := by unfold zJA; rw [bx_uu]
/-- the rest of the line -/
theorem m_ljRest (H : zMR A s n u R h) (hn : 0 < n) {D : Nat → Int32} (hJ : zJm D n u most 0) {b : Int32} : ∀ i, i ≤ n → 1 ≤ i → ∀ M : Nat → Int32, (∀ j, j < i → M j = nI (zJp n u most j)) → zRn X 5 0 0 MX12_laysJumper 115 [some (.ref 98), some (.int (nI s)), none, some (.int b), some (.int (nI (zJst n u most i).1)), some (.int (nI (zJ n u most (zJst n u most i).1 (zJp n u most (i - 1))))), some (.int (nI i)), none, none] [] (zWd I (zJA A D M) t) (fun v w1 => v = some (.int b) ∧ ∃ M', w1 = zWd I (zJA A D M') t ∧ ∀ j, j < n → M' j = nI (zJp n u most j)) := by
  have h8 := H.2.1.1
  have h28 := z28 h8
  refine zdown ?_ ?_
  · intro _ M hM
    have H1 : zMR (zJA A D M) s n u R h := (H.up (p := 107) (by decide)).up (p := 106) (by decide)
    refine bX12_laysJumper_115 _ _ _ _ _ _ (zvRd ob_98 (m_many H1) (by decide) ?_)
    rw [if_pos (Int32.le_refl _)]
    exact ⟨rfl, M, rfl, hM⟩
  · intro i hi ih h1 M hM
    have H1 : zMR (zJA A D M) s n u R h := (H.up (p := 107) (by decide)).up (p := 106) (by decide)
    have ih := ih (by omega)
    obtain ⟨g1, g2, g3, g4⟩ := zJst_ok (most := most) H.2.1 i (by omega)
    obtain ⟨x, hx⟩ := zJp_ok (most := most) H.2.1 hi
    have hg := zjF_g n u most (zJ n u most) (zJst n u most i).1 (zJst n u most i).2 n
    rw [hx] at hg
    obtain ⟨f1, f2, f3, -, f5⟩ := hg
    have e2 : (zJst n u most i).2 = some (zJp n u most (i - 1)) := by
      obtain ⟨i', rfl⟩ : ∃ i', i = i' + 1 := ⟨i - 1, by omega⟩
      rw [zJst_s]
      rfl
    have hl : zJp n u most (i - 1) < n := g4 _ e2
    have ex : zJ n u most (zJst n u most i).1 (zJp n u most (i - 1)) = x := by
      rw [zJ_eq h8 g1, ← e2, hx]
      rfl
    rw [zJst_s] at ih
    rw [e2] at f3 f5
    rw [ex]
    have hrd := fun a hc => zJc_rd H.2.1 hJ.c g1 (Nat.zero_le _) g2 a hc
    generalize (zJst n u most i).1 = S at *
    generalize hP : zJp n u most i = P at *
    generalize hLp : zJp n u most (i - 1) = Lp at *
    have hxl : x ≤ 10 := by
      have := zJ_le n u most (S ||| 2 ^ P) P
      have := zjj_le u (some Lp) P
      unfold zjw at f3
      omega
    refine bX12_laysJumper_115 _ _ _ _ _ _ (zvRd ob_98 (m_many H1) (by decide) ?_)
    rw [zi_le (by omega) (by omega), if_neg (by omega)]
    refine ⟨_, fr_98_17.rd, nI Lp, ?_, ?_⟩
    · show zaI _ _ (nI i - nI 1) = _
      rw [pk_sub h1, ar_106.rd (by omega), zJA_106, hM (i - 1) (by omega), hLp]
    · have jw : ∀ a, a < n → zcf n u S a = true → ∃ z : Nat, zjw u (zJ n u most) S (some Lp) a = zJ n u most (S ||| 2 ^ a) a + z ∧ ((zlt u Lp a = true ∧ z = 0) ∨ (zlt u Lp a = false ∧ z = 1)) := fun a ha hc => by
        unfold zjw zjj
        by_cases c : zlt u Lp a = true
        · exact ⟨0, by simp only [c, if_true]; omega, Or.inl ⟨c, rfl⟩⟩
        · exact ⟨1, by simp only [c]; exact Nat.add_comm _ _, Or.inr ⟨by simpa using c, rfl⟩⟩
      have at_ : ∀ a, a < n → zcf n u S a = true → zaI (zWd I (zJA A D M) t) 107 ((8 : Int32) * (nI S ||| ((1 : Int32) <<< (nI a &&& 31))) + nI a) = some (nI (zJ n u most (S ||| 2 ^ a) a)) := fun a ha hc => by
        have := zor_lt g1 ha
        rw [zb_1 a (by omega), zb_or]
        show zaI _ _ (nI 8 * nI _ + nI a) = _
        rw [pk_mul, nI_add, ar_107.rd (by omega), zJA_107, hrd a hc]
      refine zdown (P := fun a => zRn X 5 0 0 MX12_laysJumper 139 [some (.ref 98), some (.int (nI s)), none, some (.int b), some (.int (nI S)), some (.int (nI x)), some (.int (nI i)), some (.int (nI a)), some (.int (nI Lp))] [] (zWd I (zJA A D M) t) (fun v w1 => v = some (.int b) ∧ ∃ M', w1 = zWd I (zJA A D M') t ∧ ∀ j, j < n → M' j = nI (zJp n u most j))) (n := P) ?_ (fun a ha iha => ?_) 0 (Nat.zero_le _)
      · obtain ⟨c1, c2⟩ := (zcf_iff f1).mp f2
        refine bX12_laysJumper_139 _ _ _ _ _ _ _ _ (zcRd (m_has (by omega) (by omega)) (by decide) ?_)
        rw [c1, if_pos (show zB false = 0 from rfl)]
        refine zvRd ob_98 (m_under H1 (by omega)) (by decide) ?_
        rw [zb_df, c2, if_pos (show nI 0 = 0 from rfl)]
        refine ⟨_, fr_98_18.rd, _, at_ P f1 f2, zvRd ob_98 (m_isBelow H1 (by omega) (by omega)) (by decide) ?_⟩
        have go : ∀ z : Nat, zJ n u most (S ||| 2 ^ P) P + z = x → zRn X 5 0 0 MX12_laysJumper 199 [some (.ref 98), some (.int (nI s)), none, some (.int b), some (.int (nI S)), some (.int (nI x)), some (.int (nI i)), some (.int (nI P)), some (.int (nI Lp))] [.int (nI z), .int (nI (zJ n u most (S ||| 2 ^ P) P))] (zWd I (zJA A D M) t) (fun v w1 => v = some (.int b) ∧ ∃ M', w1 = zWd I (zJA A D M') t ∧ ∀ j, j < n → M' j = nI (zJp n u most j)) := fun z hz => by
          refine bX12_laysJumper_199 _ _ _ _ _ _ _ _ _ _ ?_
          rw [nI_add, hz, if_pos rfl]
          refine ⟨_, fr_98_18.rd, _, at_ P f1 f2, _, fr_98_17.rd, _, ar_106.wr (by omega), ?_⟩
          rw [zJA_106, zJA_s, zb_1 P (by omega), zb_or, nI_1]
          have e3 : i + 1 - 1 = i := by omega
          rw [e3, hP] at ih
          refine ih (upd M i (nI P)) (fun j hj => ?_)
          by_cases e : j = i
          · rw [e, upd_eq, hP]
          · rw [upd_ne _ _ e]
            exact hM j (by omega)
        obtain ⟨z, z1, z2⟩ := jw P f1 f2
        rw [zB_if]
        rcases z2 with ⟨z3, z4⟩ | ⟨z3, z4⟩
        · rw [if_pos z3]
          rw [z4] at z1
          exact go 0 (by omega)
        · rw [if_neg (by rw [z3]; decide)]
          rw [z4] at z1
          exact go 1 (by omega)
      · have next : zRn X 5 0 0 MX12_laysJumper 205 [some (.ref 98), some (.int (nI s)), none, some (.int b), some (.int (nI S)), some (.int (nI x)), some (.int (nI i)), some (.int (nI a)), some (.int (nI Lp))] [] (zWd I (zJA A D M) t) (fun v w1 => v = some (.int b) ∧ ∃ M', w1 = zWd I (zJA A D M') t ∧ ∀ j, j < n → M' j = nI (zJp n u most j)) := by
          refine bX12_laysJumper_205 _ _ _ _ _ _ _ _ ?_
          rw [nI_1]
          exact iha
        have hu := H.2.1.u31 a
        have hz : zdf (u a) S < 2 ^ 8 := zdf_lt hu
        refine bX12_laysJumper_139 _ _ _ _ _ _ _ _ (zcRd (m_has (by omega) (by omega)) (by decide) ?_)
        rw [zB_if]
        by_cases hb : S.testBit a = true
        · rw [if_pos hb]
          exact next
        · rw [if_neg hb]
          refine zvRd ob_98 (m_under H1 (by omega)) (by decide) ?_
          rw [zb_df, zi_0 (by omega)]
          by_cases h0 : zdf (u a) S = 0
          · rw [if_pos h0]
            have hc : zcf n u S a = true := (zcf_iff (by omega)).mpr ⟨by simpa using hb, h0⟩
            have hne := f5 a ha hc
            have hjl := zJ_le n u most (S ||| 2 ^ a) a
            refine ⟨_, fr_98_18.rd, _, at_ a (by omega) hc, zvRd ob_98 (m_isBelow H1 (by omega) (by omega)) (by decide) ?_⟩
            have go : ∀ z : Nat, z ≤ 1 → zJ n u most (S ||| 2 ^ a) a + z ≠ x → zRn X 5 0 0 MX12_laysJumper 199 [some (.ref 98), some (.int (nI s)), none, some (.int b), some (.int (nI S)), some (.int (nI x)), some (.int (nI i)), some (.int (nI a)), some (.int (nI Lp))] [.int (nI z), .int (nI (zJ n u most (S ||| 2 ^ a) a))] (zWd I (zJA A D M) t) (fun v w1 => v = some (.int b) ∧ ∃ M', w1 = zWd I (zJA A D M') t ∧ ∀ j, j < n → M' j = nI (zJp n u most j)) := fun z hz1 hz => by
              refine bX12_laysJumper_199 _ _ _ _ _ _ _ _ _ _ ?_
              rw [nI_add, zi_eq (by omega) (by omega), if_neg hz]
              exact next
            obtain ⟨z, z1, z2⟩ := jw a (by omega) hc
            rw [zB_if]
            rcases z2 with ⟨z3, z4⟩ | ⟨z3, z4⟩
            · rw [if_pos z3]
              rw [z4] at z1
              exact go 0 (by omega) (by omega)
            · rw [if_neg (by rw [z3]; decide)]
              rw [z4] at z1
              exact go 1 (by omega) (by omega)
          · rw [if_neg h0]
            exact next
theorem m_laysJumper (H : zMR A s n u R h) (hn : 0 < n) : zEv X 5 0 0 MX12_laysJumper [.ref 98, .int (nI s), .int (zB most)] (zWd I A t) (fun v w1 => v = some (.int (nI (zwo (zjF n u most (zJ n u most) 0 none n)))) ∧ ∃ B C D M, w1 = zWd (zIf I 16 (nI (2 ^ n - 1))) (zJA (zMC A B C) D M) t ∧ ∀ j, j < n → M j = nI (zJp n u most j)) := by
  have h8 := H.2.1.1
  have h28 := z28 h8
  refine eX12_laysJumper _ _ _ (bX12_laysJumper_0 _ _ _ (zvV ob_98 (m_laysLeaps H) (by decide) ?_))
  rintro w1 ⟨B, C, D, rfl, hJ⟩
  generalize hI1 : zIf I 16 (nI (2 ^ n - 1)) = I1 at *
  have H2 := zMC_H H B C
  generalize hA1 : zMC A B C = A1 at *
  have key : ∀ k, k ≤ n → ∀ M : Nat → Int32, (∀ p x, zjF n u most (zJ n u most) 0 none k = some (p, x) → M 0 = nI p) → zRn X 5 0 0 MX12_laysJumper 11 [some (.ref 98), some (.int (nI s)), some (.int (zB most)), some (.int (zPW (zjF n u most (zJ n u most) 0 none k))), some (.int (nI k)), none, none, none, none] [] (zWd I1 (zJA A1 D M) t) (fun v w1 => v = some (.int (nI (zwo (zjF n u most (zJ n u most) 0 none n)))) ∧ ∃ B C D M, w1 = zWd I1 (zJA (zMC A B C) D M) t ∧ ∀ j, j < n → M j = nI (zJp n u most j)) := by
    refine zdown ?_ ?_
    · intro M hM
      have H1 : zMR (zJA A1 D M) s n u R h := (H2.up (p := 107) (by decide)).up (p := 106) (by decide)
      refine bX12_laysJumper_11 _ _ _ _ _ (zvRd ob_98 (m_many H1) (by decide) ?_)
      rw [if_pos (Int32.le_refl _)]
      obtain ⟨x, hx⟩ := zJp_ok (most := most) H.2.1 hn
      rw [zJst_0] at hx
      have hx : zjF n u most (zJ n u most) 0 none n = some (zJp n u most 0, x) := hx
      have hg := zjF_g n u most (zJ n u most) 0 none n
      rw [hx] at hg
      obtain ⟨f1, f2, f3, -, -⟩ := hg
      have hM0 := hM _ _ hx
      refine ⟨_, fr_98_17.rd, nI (zJp n u most 0), ?_, ?_⟩
      · show zaI _ _ (nI 0) = _
        rw [ar_106.rd (by omega), zJA_106, hM0]
      · have hr := m_ljRest (X := X) (I := I1) (t := t) H2 hn hJ (b := nI x) 1 hn (Nat.le_refl _) M (fun j hj => by
          have : j = 0 := by omega
          subst this
          exact hM0)
        rw [zJst_s, zJst_0] at hr
        have f3 : zjw u (zJ n u most) 0 none (zJp n u most 0) = x := f3
        have e1 : zJ n u most (0 ||| 2 ^ zJp n u most 0) (zJp n u most 0) = x := by
          rw [← f3]
          unfold zjw zjj
          exact (Nat.zero_add _).symm
        have e2 : zJ n u most ((0, (none : Option Nat)).1 ||| 2 ^ zJp n u most 0, some (zJp n u most 0)).1 (zJp n u most (1 - 1)) = x := e1
        rw [e2] at hr
        have e3 : ((0, (none : Option Nat)).1 ||| 2 ^ zJp n u most 0, some (zJp n u most 0)).1 = 2 ^ zJp n u most 0 := Nat.zero_or _
        rw [e3] at hr
        rw [hx, zb_1 _ (by omega)]
        refine hr.conseq ?_
        rintro v w1 ⟨rfl, M', rfl, hM'⟩
        exact ⟨rfl, B, C, D, M', by rw [hA1], hM'⟩
    · intro k hk ih M hM
      have H1 : zMR (zJA A1 D M) s n u R h := (H2.up (p := 107) (by decide)).up (p := 106) (by decide)
      have hu := H.2.1.u31 k
      have hp2 : 2 ^ k < 2 ^ n := Nat.pow_lt_pow_right (by decide) hk
      refine bX12_laysJumper_11 _ _ _ _ _ (zvRd ob_98 (m_many H1) (by decide) ?_)
      rw [zi_le (by omega) (by omega), if_neg (by omega)]
      refine zvRd ob_98 (m_under H1 (by omega)) (by decide) ?_
      rw [zi_0 (by omega)]
      have ecf : zcf n u 0 k = true ↔ u k = 0 := by
        rw [zcf_iff hk]
        have : zdf (u k) 0 = u k := zext (fun i => by rw [zdf_bit]; simp)
        rw [this]
        simp
      have hg := zjF_g n u most (zJ n u most) 0 none k
      have hFs := zjF_s n u most (zJ n u most) 0 none k
      generalize zjF n u most (zJ n u most) 0 none k = o at *
      generalize hF1 : zjF n u most (zJ n u most) 0 none (k + 1) = F1 at *
      unfold zjS at hFs
      have keep : F1 = o → zRn X 5 0 0 MX12_laysJumper 93 [some (.ref 98), some (.int (nI s)), some (.int (zB most)), some (.int (zPW o)), some (.int (nI k)), none, none, none, none] [] (zWd I1 (zJA A1 D M) t) (fun v w1 => v = some (.int (nI (zwo (zjF n u most (zJ n u most) 0 none n)))) ∧ ∃ B C D M, w1 = zWd I1 (zJA (zMC A B C) D M) t ∧ ∀ j, j < n → M j = nI (zJp n u most j)) := fun e => by
        refine bX12_laysJumper_93 _ _ _ _ _ ?_
        rw [nI_1, ← e]
        exact ih M (fun p x hp => hM p x (by rw [← e]; exact hp))
      by_cases hu0 : u k = 0
      · have hc := ecf.mpr hu0
        rw [if_pos hu0]
        rw [if_pos hc] at hFs
        have ew : zjw u (zJ n u most) 0 none k = zJ n u most (2 ^ k) k := by
          unfold zjw zjj
          rw [Nat.zero_or, Nat.zero_add]
        have hjl := zJ_le n u most (2 ^ k) k
        rw [ew] at hFs
        refine ⟨_, fr_98_18.rd, nI (zJ n u most (2 ^ k) k), ?_, ?_⟩
        · rw [zb_1 k (by omega)]
          show zaI _ _ (nI 8 * nI _ + nI k) = _
          have hr := zJc_rd H.2.1 hJ.c (Nat.two_pow_pos n) (Nat.le_refl _) (zid_0 n u) k hc
          rw [Nat.zero_or] at hr
          rw [pk_mul, nI_add, ar_107.rd (by omega), zJA_107, hr]
        · have take : F1 = some (k, zJ n u most (2 ^ k) k) → zRn X 5 0 0 MX12_laysJumper 82 [some (.ref 98), some (.int (nI s)), some (.int (zB most)), none, some (.int (nI k)), some (.int (nI (zJ n u most (2 ^ k) k))), none, none, none] [] (zWd I1 (zJA A1 D M) t) (fun v w1 => v = some (.int (nI (zwo (zjF n u most (zJ n u most) 0 none n)))) ∧ ∃ B C D M, w1 = zWd I1 (zJA (zMC A B C) D M) t ∧ ∀ j, j < n → M j = nI (zJp n u most j)) := fun e => by
            refine bX12_laysJumper_82 _ _ _ _ _ ⟨_, fr_98_17.rd, zWd I1 (zJA A1 D (upd M 0 (nI k))) t, ?_, ?_⟩
            · show zsI _ _ (nI 0) _ = _
              rw [ar_106.wr (by omega), zJA_106, zJA_s]
            · refine bX12_laysJumper_93 _ _ _ _ _ ?_
              rw [nI_1]
              have := ih (upd M 0 (nI k)) (fun p x hp => by
                rw [e] at hp
                cases hp
                exact upd_eq _ _ _)
              rw [e] at this
              exact this
          refine bX12_laysJumper_50 _ _ _ _ _ _ ?_
          rw [if_neg (znm1 (by omega))]
          cases o with
          | none =>
            rw [if_pos (show zPW none = -1 from rfl)]
            exact take hFs
          | some o =>
            obtain ⟨p, x⟩ := o
            obtain ⟨g1, -, g3, -, -⟩ := hg
            have hx : x ≤ 10 := by
              have := zjj_le u none p
              have := zJ_le n u most (0 ||| 2 ^ p) p
              unfold zjw at g3
              omega
            have e1 : zPW (some (p, x)) = nI x := rfl
            have hFs : F1 = if (if most = true then x < zJ n u most (2 ^ k) k else zJ n u most (2 ^ k) k < x) then some (k, zJ n u most (2 ^ k) k) else some (p, x) := hFs
            rw [e1] at keep ⊢
            rw [if_neg (znm1 (by omega)), zB_if]
            cases most
            · rw [if_neg (by decide)]
              simp only [Bool.false_eq_true, if_false] at hFs
              rw [zi_le (by omega) (by omega)]
              by_cases c : x ≤ zJ n u false (2 ^ k) k
              · rw [if_pos c]
                rw [if_neg (by omega)] at hFs
                exact keep hFs
              · rw [if_neg c]
                rw [if_pos (by omega)] at hFs
                exact take hFs
            · rw [if_pos rfl]
              simp only [if_true] at hFs
              rw [zi_le (by omega) (by omega)]
              by_cases c : zJ n u true (2 ^ k) k ≤ x
              · rw [if_pos c]
                rw [if_neg (by omega)] at hFs
                exact keep hFs
              · rw [if_neg c]
                rw [if_pos (by omega)] at hFs
                exact take hFs
      · rw [if_neg hu0]
        rw [if_neg (fun z => hu0 (ecf.mp z))] at hFs
        refine bX12_laysJumper_50 _ _ _ _ _ _ ?_
        rw [if_pos rfl]
        exact keep hFs
  have k0 := key 0 (Nat.zero_le _) ((va_up A1 107 D) 106) (fun p x hp => by cases hp)
  have e0 : zJA A1 D ((va_up A1 107 D) 106) = va_up A1 107 D := zup_self _ _
  rw [e0] at k0
  exact k0
end ZMj
section ZQj
variable {X : zX} {S : Nat → zSl} {x y z : Int32}
theorem zKp.jm (I A : zF2) (x : Int32) (B C D M : Nat → Int32) : zKp I A (zIf I 16 x) (zJA (zMC A B C) D M) := ((zKp.mc I A x B C).a (p := 107) (by decide)).a (p := 106) (by decide)
theorem q_jumps : zSame X MX11_jumps MX12_jumps [.int x, .int y] S := by
  rcases zslot S x with ⟨s, hs⟩ | hn
  · by_cases hy : zin 2 y = true
    · obtain ⟨b, hb, rfl⟩ := zin_e.mp hy
      refine ⟨nI (zwo (zjF (S s).1 (S s).2.1 (decide (b = 1)) (zJ (S s).1 (S s).2.1 (decide (b = 1))) 0 none (S s).1)), fun I A t hC => zQy.mk 8 (by decide) ?_, fun I A t hM => zQy.mk 8 (by decide) ?_⟩
      · have h0 := hC s hs.1
        refine eX11_jumps _ _ _ (bX11_jumps_0 _ _ _ (zvO1 ob_0 (v_orderIn1 hC hs) (by decide) (zcRd (v_isBit _) (by decide) ?_)))
        rw [zB_t hy]
        refine ⟨_, fr_0_8.rd, ?_⟩
        have go := bX11_jumps_35 (X := X) (d := 8) (kc := 0) (ks := 0) (w := zWd I A t) (Q := zQk I A t (nI (zwo (zjF (S s).1 (S s).2.1 (decide (b = 1)) (zJ (S s).1 (S s).2.1 (decide (b = 1))) 0 none (S s).1)))) (zB (decide (b = 1))) (2 + 5 * s) 87 (by
          refine zvI1 ob_87 (v_extreme h0.1) (by decide) ?_
          rintro w1 ⟨D, rfl⟩
          exact zQk.of ((zKp.refl I A).a (by decide)))
        rcases (show b = 0 ∨ b = 1 by omega) with rfl | rfl
        · rw [if_neg (by decide)]
          exact go
        · rw [if_pos (by decide)]
          exact go
      · have h1 := m_ord1 (X := X) (I := I) (t := t) hM hs
        obtain ⟨s3, rfl, s0⟩ := hs
        refine eX12_jumps _ _ _ (bX12_jumps_0 _ _ _ (zvRd ob_98 h1 (by decide) ?_))
        rw [if_neg (by decide)]
        refine zcRd (m_inC (m := 1) _ (by decide) (by decide)) (by decide) ?_
        rw [zB_t hy]
        have go := bX12_jumps_30 (X := X) (d := 8) (kc := 0) (ks := 0) (w := zWd I A t) (Q := zQk I A t (nI (zwo (zjF (S s).1 (S s).2.1 (decide (b = 1)) (zJ (S s).1 (S s).2.1 (decide (b = 1))) 0 none (S s).1)))) (zB (decide (b = 1))) (nI s) 98 (by
          refine zvI1 ob_98 (m_laysJumper (hM s s3) s0) (by decide) ?_
          rintro w1 ⟨B, C, D, M, rfl, -⟩
          exact zQk.of (zKp.jm I A _ B C D M))
        rcases (show b = 0 ∨ b = 1 by omega) with rfl | rfl
        · rw [if_neg (by decide)]
          exact go
        · rw [if_pos (by decide)]
          exact go
    · rw [Bool.not_eq_true] at hy
      refine ⟨-2, fun I A t hC => zQy.mk 5 (by decide) ?_, fun I A t hM => zQy.mk 5 (by decide) ?_⟩
      · refine eX11_jumps _ _ _ (bX11_jumps_0 _ _ _ (zvO1 ob_0 (v_orderIn1 hC hs) (by decide) (zcRd (v_isBit _) (by decide) ?_)))
        rw [zB_f hy]
        exact zQk.id _ _ _ _
      · refine eX12_jumps _ _ _ (bX12_jumps_0 _ _ _ (zvRd ob_98 (m_ord1 hM hs) (by decide) ?_))
        rw [if_neg (by decide)]
        refine zcRd (m_inC (m := 1) _ (by decide) (by decide)) (by decide) ?_
        rw [zB_f hy]
        exact zQk.id _ _ _ _
  · refine ⟨-2, fun I A t hC => zQy.mk 5 (by decide) ?_, fun I A t hM => zQy.mk 5 (by decide) ?_⟩
    · exact eX11_jumps _ _ _ (bX11_jumps_0 _ _ _ (zvO0 ob_0 (v_orderIn0 hC hn) (by decide) (zQk.id _ _ _ _)))
    · refine eX12_jumps _ _ _ (bX12_jumps_0 _ _ _ (zvRd ob_98 (m_ord0 hM hn) (by decide) ?_))
      rw [if_pos rfl]
      exact zQk.id _ _ _ _
theorem q_jumper : zSame X MX11_jumper MX12_jumper [.int x, .int y, .int z] S := by
  rcases zslot S x with ⟨s, hs⟩ | hn
  · by_cases hy : zin 2 y = true
    · obtain ⟨b, hb, rfl⟩ := zin_e.mp hy
      by_cases hz : zin (S s).1 z = true
      · obtain ⟨i, hi, rfl⟩ := zin_e.mp hz
        refine ⟨nI (zJp (S s).1 (S s).2.1 (decide (b = 1)) i), fun I A t hC => zQy.mk 8 (by decide) ?_, fun I A t hM => zQy.mk 8 (by decide) ?_⟩
        · have h0 := hC s hs.1
          refine eX11_jumper _ _ _ _ (bX11_jumper_0 _ _ _ _ (zvO1 ob_0 (v_orderWith2 hC hs hi) (by decide) (zcRd (v_isBit _) (by decide) ?_)))
          rw [zB_t hy]
          refine ⟨_, fr_0_8.rd, ?_⟩
          have go := bX11_jumper_39 (X := X) (d := 8) (kc := 0) (ks := 0) (w := zWd I A t) (Q := zQk I A t (nI (zJp (S s).1 (S s).2.1 (decide (b = 1)) i))) (nI i) (zB (decide (b = 1))) (2 + 5 * s) 87 (by
            refine zvI1 ob_87 (v_jthing h0.1 hi) (by decide) ?_
            rintro w1 ⟨D, rfl⟩
            exact zQk.of ((zKp.refl I A).a (by decide)))
          rcases (show b = 0 ∨ b = 1 by omega) with rfl | rfl
          · rw [if_neg (by decide)]
            exact go
          · rw [if_pos (by decide)]
            exact go
        · have h1 := m_ord1 (X := X) (I := I) (t := t) hM hs
          obtain ⟨s3, rfl, s0⟩ := hs
          have H : zMR A s (S s).1 (S s).2.1 (S s).2.2.1 (S s).2.2.2 := hM s s3
          have h8 := H.2.1.1
          refine eX12_jumper _ _ _ _ (bX12_jumper_0 _ _ _ _ (zvRd ob_98 h1 (by decide) ?_))
          rw [if_neg (by decide)]
          refine zcRd (m_inC (m := 1) _ (by decide) (by decide)) (by decide) ?_
          rw [zB_t hy]
          refine zvRd ob_98 (m_many H) (by decide) (zcRd (m_inN _ s0 (by omega)) (by decide) ?_)
          rw [zB_t hz]
          have go := bX12_jumper_50 (X := X) (d := 8) (kc := 0) (ks := 0) (w := zWd I A t) (Q := zQk I A t (nI (zJp (S s).1 (S s).2.1 (decide (b = 1)) i))) 98 (nI i) (zB (decide (b = 1))) (nI s) 98 (by
            refine zvI1 ob_98 (m_laysJumper H s0) (by decide) ?_
            rintro w1 ⟨B, C, D, M, rfl, hM2⟩
            refine ⟨_, fr_98_17.rd, _, ar_106.rd (by omega), ?_⟩
            rw [zJA_106, hM2 i hi]
            exact zQk.of (zKp.jm I A _ B C D M))
          rcases (show b = 0 ∨ b = 1 by omega) with rfl | rfl
          · rw [if_neg (by decide)]
            exact go
          · rw [if_pos (by decide)]
            exact go
      · rw [Bool.not_eq_true] at hz
        refine ⟨-2, fun I A t hC => zQy.mk 5 (by decide) ?_, fun I A t hM => zQy.mk 5 (by decide) ?_⟩
        · exact eX11_jumper _ _ _ _ (bX11_jumper_0 _ _ _ _ (zvO0 ob_0 (v_orderWith1 hC hs hz) (by decide) (zQk.id _ _ _ _)))
        · have h1 := m_ord1 (X := X) (I := I) (t := t) hM hs
          obtain ⟨s3, rfl, s0⟩ := hs
          have H : zMR A s (S s).1 (S s).2.1 (S s).2.2.1 (S s).2.2.2 := hM s s3
          have h8 := H.2.1.1
          refine eX12_jumper _ _ _ _ (bX12_jumper_0 _ _ _ _ (zvRd ob_98 h1 (by decide) ?_))
          rw [if_neg (by decide)]
          refine zcRd (m_inC (m := 1) _ (by decide) (by decide)) (by decide) ?_
          rw [zB_t hy]
          refine zvRd ob_98 (m_many H) (by decide) (zcRd (m_inN _ s0 (by omega)) (by decide) ?_)
          rw [zB_f hz]
          exact zQk.id _ _ _ _
    · rw [Bool.not_eq_true] at hy
      refine ⟨-2, fun I A t hC => zQy.mk 5 (by decide) ?_, fun I A t hM => zQy.mk 5 (by decide) ?_⟩
      · by_cases hz : zin (S s).1 z = true
        · obtain ⟨i, hi, rfl⟩ := zin_e.mp hz
          refine eX11_jumper _ _ _ _ (bX11_jumper_0 _ _ _ _ (zvO1 ob_0 (v_orderWith2 hC hs hi) (by decide) (zcRd (v_isBit _) (by decide) ?_)))
          rw [zB_f hy]
          exact zQk.id _ _ _ _
        · rw [Bool.not_eq_true] at hz
          exact eX11_jumper _ _ _ _ (bX11_jumper_0 _ _ _ _ (zvO0 ob_0 (v_orderWith1 hC hs hz) (by decide) (zQk.id _ _ _ _)))
      · refine eX12_jumper _ _ _ _ (bX12_jumper_0 _ _ _ _ (zvRd ob_98 (m_ord1 hM hs) (by decide) ?_))
        rw [if_neg (by decide)]
        refine zcRd (m_inC (m := 1) _ (by decide) (by decide)) (by decide) ?_
        rw [zB_f hy]
        exact zQk.id _ _ _ _
  · refine ⟨-2, fun I A t hC => zQy.mk 5 (by decide) ?_, fun I A t hM => zQy.mk 5 (by decide) ?_⟩
    · exact eX11_jumper _ _ _ _ (bX11_jumper_0 _ _ _ _ (zvO0 ob_0 (v_orderWith0 hC hn) (by decide) (zQk.id _ _ _ _)))
    · refine eX12_jumper _ _ _ _ (bX12_jumper_0 _ _ _ _ (zvRd ob_98 (m_ord0 hM hn) (by decide) ?_))
      rw [if_pos rfl]
      exact zQk.id _ _ _ _
end ZQj
