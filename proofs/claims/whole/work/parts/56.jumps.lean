/-! ===== jumps: the fewest and the most ===== -/
def zjj (u : Nat → Nat) (L : Option Nat) (a : Nat) : Nat := match L with
  | none => 0
  | some l => if zlt u l a = true then 0 else 1
theorem zjj_le (u : Nat → Nat) (L : Option Nat) (a : Nat) : zjj u L a ≤ 1 := by
  cases L with
  | none => exact Nat.zero_le _
  | some l =>
    show (if zlt u l a = true then 0 else 1) ≤ 1
    split <;> omega
def zjw (u : Nat → Nat) (V : Nat → Nat → Nat) (s : Nat) (L : Option Nat) (a : Nat) : Nat := zjj u L a + V (s ||| 2 ^ a) a
/-- x is better than y -/
def zjb (most : Bool) (x y : Nat) : Prop := (most = true ∧ y < x) ∨ (most = false ∧ x < y)
def zjS (n : Nat) (u : Nat → Nat) (most : Bool) (V : Nat → Nat → Nat) (s : Nat) (L : Option Nat) (a : Nat) (o : Option (Nat × Nat)) : Option (Nat × Nat) :=
  if zcf n u s a = true then (match o with
    | none => some (a, zjw u V s L a)
    | some (p, x) => if (if most = true then x < zjw u V s L a else zjw u V s L a < x) then some (a, zjw u V s L a) else some (p, x)) else o
def zjF (n : Nat) (u : Nat → Nat) (most : Bool) (V : Nat → Nat → Nat) (s : Nat) (L : Option Nat) : Nat → Option (Nat × Nat) := zit (zjS n u most V s L) none
theorem zjF_s (n : Nat) (u : Nat → Nat) (most : Bool) (V : Nat → Nat → Nat) (s : Nat) (L : Option Nat) (k : Nat) : zjF n u most V s L (k + 1) = zjS n u most V s L k (zjF n u most V s L k) := rfl
def zjG (n : Nat) (u : Nat → Nat) (most : Bool) (V : Nat → Nat → Nat) (s : Nat) (L : Option Nat) (k : Nat) (o : Option (Nat × Nat)) : Prop := match o with
  | none => ∀ a, a < k → zcf n u s a = false
  | some (p, x) => p < k ∧ zcf n u s p = true ∧ zjw u V s L p = x ∧ (∀ a, a < k → zcf n u s a = true → if most = true then zjw u V s L a ≤ x else x ≤ zjw u V s L a) ∧ ∀ a, a < p → zcf n u s a = true → zjw u V s L a ≠ x
theorem zjF_g (n : Nat) (u : Nat → Nat) (most : Bool) (V : Nat → Nat → Nat) (s : Nat) (L : Option Nat) : ∀ k, zjG n u most V s L k (zjF n u most V s L k)
  | 0 => fun a ha => absurd ha (Nat.not_lt_zero _)
  | k + 1 => by
    have ih := zjF_g n u most V s L k
    rw [zjF_s]
    unfold zjS
    generalize zjF n u most V s L k = o at *
    have split1 : ∀ {P : Nat → Prop}, (∀ a, a < k → P a) → P k → ∀ a, a < k + 1 → P a := fun h1 h2 a ha => by
      rcases Nat.lt_or_ge a k with q | q
      · exact h1 a q
      · have : a = k := by omega
        subst this
        exact h2
    by_cases hc : zcf n u s k = true
    · rw [if_pos hc]
      cases o with
      | none =>
        have ih : ∀ a, a < k → zcf n u s a = false := ih
        refine ⟨by omega, hc, rfl, split1 (fun a ha hz => ?_) (fun _ => ?_), fun a ha hz => ?_⟩
        · rw [ih a ha] at hz
          cases hz
        · cases most <;> exact Nat.le_refl _
        · rw [ih a ha] at hz
          cases hz
      | some o =>
        obtain ⟨p, x⟩ := o
        obtain ⟨h1, h2, h3, h4, h5⟩ := ih
        show zjG n u most V s L (k + 1) (if (if most = true then x < zjw u V s L k else zjw u V s L k < x) then some (k, zjw u V s L k) else some (p, x))
        cases most
        · simp only [Bool.false_eq_true, if_false] at h4 ⊢
          by_cases hb : zjw u V s L k < x
          · rw [if_pos hb]
            refine ⟨by omega, hc, rfl, ?_, fun a ha hz => ?_⟩
            · simp only [Bool.false_eq_true, if_false]
              exact split1 (fun a ha hz => by have := h4 a ha hz; omega) (fun _ => Nat.le_refl _)
            · have := h4 a ha hz
              omega
          · rw [if_neg hb]
            refine ⟨by omega, h2, h3, ?_, h5⟩
            simp only [Bool.false_eq_true, if_false]
            exact split1 h4 (fun _ => by omega)
        · simp only [if_true] at h4 ⊢
          by_cases hb : x < zjw u V s L k
          · rw [if_pos hb]
            refine ⟨by omega, hc, rfl, ?_, fun a ha hz => ?_⟩
            · simp only [if_true]
              exact split1 (fun a ha hz => by have := h4 a ha hz; omega) (fun _ => Nat.le_refl _)
            · have := h4 a ha hz
              omega
          · rw [if_neg hb]
            refine ⟨by omega, h2, h3, ?_, h5⟩
            simp only [if_true]
            exact split1 h4 (fun _ => by omega)
    · rw [if_neg hc]
      have hc' : zcf n u s k = false := by simpa using hc
      cases o with
      | none => exact split1 (P := fun a => zcf n u s a = false) ih hc'
      | some o =>
        obtain ⟨p, x⟩ := o
        obtain ⟨h1, h2, h3, h4, h5⟩ := ih
        exact ⟨by omega, h2, h3, split1 h4 (fun hz => absurd hz hc), h5⟩
theorem zjF_cong {n : Nat} {u : Nat → Nat} {most : Bool} {V V' : Nat → Nat → Nat} {s : Nat} {L : Option Nat} (h : ∀ a, zcf n u s a = true → V (s ||| 2 ^ a) a = V' (s ||| 2 ^ a) a) : ∀ k, zjF n u most V s L k = zjF n u most V' s L k
  | 0 => rfl
  | k + 1 => by
    rw [zjF_s, zjF_s, zjF_cong h k]
    unfold zjS
    by_cases hc : zcf n u s k = true
    · have e : zjw u V s L k = zjw u V' s L k := by
        unfold zjw
        rw [h k hc]
      rw [if_pos hc, if_pos hc, e]
    · rw [if_neg hc, if_neg hc]
def zwo (o : Option (Nat × Nat)) : Nat := match o with
  | none => 0
  | some (_, x) => x
def zpa_ (o : Option (Nat × Nat)) : Nat := match o with
  | none => 0
  | some (p, _) => p
def zJV (n : Nat) (u : Nat → Nat) (most : Bool) : Nat → Nat → Nat → Nat
  | 0, _, _ => 0
  | k + 1, s, l => zwo (zjF n u most (zJV n u most k) s (some l) n)
theorem zJV_s (n : Nat) (u : Nat → Nat) (most : Bool) (k s l : Nat) : zJV n u most (k + 1) s l = zwo (zjF n u most (zJV n u most k) s (some l) n) := rfl
theorem zJV_st {n : Nat} {u : Nat → Nat} {most : Bool} (hn : n ≤ 8) : ∀ k s l, s < 2 ^ n → n < k + zpc s → zJV n u most k s l = zJV n u most (k + 1) s l
  | 0, s, l, hs, hk => by
    have := zpc_le hn hs
    omega
  | k + 1, s, l, hs, hk => by
    have h28 := z28 hn
    rw [zJV_s, zJV_s n u most (k + 1)]
    congr 1
    refine zjF_cong (fun a ha => ?_) n
    obtain ⟨h1, h2, -⟩ := zcf_s ha
    have := (zpc_out s (by omega) a (by omega)).2 h2
    exact zJV_st hn k _ a (zor_lt hs h1) (by omega)
theorem zJV_le {n : Nat} {u : Nat → Nat} {most : Bool} : ∀ k s l, zJV n u most k s l ≤ k
  | 0, _, _ => Nat.le_refl _
  | k + 1, s, l => by
    rw [zJV_s]
    have h := zjF_g n u most (zJV n u most k) s (some l) n
    generalize zjF n u most (zJV n u most k) s (some l) n = o at *
    cases o with
    | none => exact Nat.zero_le _
    | some o =>
      obtain ⟨p, x⟩ := o
      obtain ⟨h1, h2, h3, -, -⟩ := h
      show x ≤ k + 1
      have h4 := zJV_le (n := n) (u := u) (most := most) k (s ||| 2 ^ p) p
      have h5 := zjj_le u (some l) p
      unfold zjw at h3
      omega
def zJ (n : Nat) (u : Nat → Nat) (most : Bool) (s l : Nat) : Nat := zJV n u most 9 s l
theorem zJ_eq {n : Nat} {u : Nat → Nat} {most : Bool} (hn : n ≤ 8) {s l : Nat} (hs : s < 2 ^ n) : zJ n u most s l = zwo (zjF n u most (zJ n u most) s (some l) n) := by
  have h := zJV_st (u := u) (most := most) hn 9 s l hs (by omega)
  rw [zJV_s n u most 9] at h
  exact h
theorem zJ_le (n : Nat) (u : Nat → Nat) (most : Bool) (s l : Nat) : zJ n u most s l ≤ 9 := zJV_le 9 s l
/-- a beginning that is not all goes on -/
theorem zcf_ex {n : Nat} {u : Nat → Nat} (h : zPo n u) {s : Nat} (hs : s < 2 ^ n) (hne : s ≠ 2 ^ n - 1) : ∃ a, zcf n u s a = true := by
  have hex : ∃ a, a < n ∧ s.testBit a = false := by
    refine Classical.byContradiction (fun hn => hne (zext (fun i => ?_)))
    rw [Nat.testBit_two_pow_sub_one]
    by_cases hi : i < n
    · cases hb : s.testBit i
      · exact absurd ⟨i, hi, hb⟩ hn
      · simp [hi]
    · rw [zbit_hi hs (by omega)]
      simp [hi]
  obtain ⟨a, ⟨h1, h2⟩, hm⟩ := zmaxE (P := fun a => a < n ∧ s.testBit a = false) (fun a => 8 - zpc (u a)) (fun a => Nat.sub_le _ _) hex
  refine ⟨a, ?_⟩
  have h3 : zdf (u a) s = 0 := zdf0.mpr (fun i hi => by
    cases hb : s.testBit i
    · have h4 := hm i ⟨(h.lt (a := i) (b := a) hi).1, hb⟩
      have h5 : 8 - zpc (u i) ≤ 8 - zpc (u a) := h4
      have h6 := (zTr.u h).dn hi
      have h7 := zpc8 (u a)
      omega
    · rfl)
  unfold zcf
  simp [h1, h2, h3]
theorem zjF_ex {n : Nat} {u : Nat → Nat} {most : Bool} {V : Nat → Nat → Nat} (h : zPo n u) {s : Nat} (hs : s < 2 ^ n) (hne : s ≠ 2 ^ n - 1) (L : Option Nat) : ∃ p x, zjF n u most V s L n = some (p, x) := by
  have hg := zjF_g n u most V s L n
  cases ho : zjF n u most V s L n with
  | none =>
    rw [ho] at hg
    obtain ⟨a, ha⟩ := zcf_ex h hs hne
    rw [hg a (zcf_s ha).1] at ha
    cases ha
  | some o => exact ⟨o.1, o.2, rfl⟩
theorem zjF_fu {n : Nat} {u : Nat → Nat} {most : Bool} {V : Nat → Nat → Nat} {L : Option Nat} : ∀ k, zjF n u most V (2 ^ n - 1) L k = none
  | 0 => rfl
  | k + 1 => by
    rw [zjF_s, zjF_fu k]
    unfold zjS
    rw [zcf_full, if_neg (by decide)]
/-- the first line of so few (many) -/
def zJst (n : Nat) (u : Nat → Nat) (most : Bool) : Nat → Nat × Option Nat
  | 0 => (0, none)
  | i + 1 => ((zJst n u most i).1 ||| 2 ^ zpa_ (zjF n u most (zJ n u most) (zJst n u most i).1 (zJst n u most i).2 n), some (zpa_ (zjF n u most (zJ n u most) (zJst n u most i).1 (zJst n u most i).2 n)))
def zJp (n : Nat) (u : Nat → Nat) (most : Bool) (i : Nat) : Nat := zpa_ (zjF n u most (zJ n u most) (zJst n u most i).1 (zJst n u most i).2 n)
theorem zJst_s (n : Nat) (u : Nat → Nat) (most : Bool) (i : Nat) : zJst n u most (i + 1) = ((zJst n u most i).1 ||| 2 ^ zJp n u most i, some (zJp n u most i)) := rfl
theorem zJst_0 (n : Nat) (u : Nat → Nat) (most : Bool) : zJst n u most 0 = (0, none) := rfl
theorem zJst_ok {n : Nat} {u : Nat → Nat} {most : Bool} (h : zPo n u) : ∀ i, i ≤ n → (zJst n u most i).1 < 2 ^ n ∧ zid n u (zJst n u most i).1 = true ∧ zpc (zJst n u most i).1 = i ∧ ∀ l, (zJst n u most i).2 = some l → l < n
  | 0, _ => ⟨Nat.two_pow_pos n, zid_0 n u, zpc0, fun l hl => by cases hl⟩
  | i + 1, hi => by
    obtain ⟨h1, h2, h3, h4⟩ := zJst_ok (most := most) h i (by omega)
    have h28 := z28 h.1
    have hne : (zJst n u most i).1 ≠ 2 ^ n - 1 := fun e => by
      have := zpc_full n h.1
      rw [← e, h3] at this
      omega
    obtain ⟨p, x, e⟩ := zjF_ex (most := most) (V := zJ n u most) h h1 hne (zJst n u most i).2
    have hg := zjF_g n u most (zJ n u most) (zJst n u most i).1 (zJst n u most i).2 n
    rw [e] at hg
    obtain ⟨g1, g2, -⟩ := hg
    have hp : zJp n u most i = p := by
      unfold zJp
      rw [e]
      rfl
    have h8 := h.1
    rw [zJst_s, hp]
    refine ⟨zor_lt h1 g1, zcf_id h2 g2, ?_, fun l hl => ?_⟩
    · show zpc ((zJst n u most i).1 ||| 2 ^ p) = i + 1
      rw [(zpc_out _ (by omega) p (by omega)).2 (zcf_s g2).2.1, h3]
    · cases hl
      exact g1
theorem zJst_ne {n : Nat} {u : Nat → Nat} {most : Bool} (h : zPo n u) {i : Nat} (hi : i < n) : (zJst n u most i).1 ≠ 2 ^ n - 1 := fun e => by
  have h3 := (zJst_ok (most := most) h i (by omega)).2.2.1
  have := zpc_full n h.1
  rw [← e, h3] at this
  omega
theorem zJp_ok {n : Nat} {u : Nat → Nat} {most : Bool} (h : zPo n u) {i : Nat} (hi : i < n) : ∃ x, zjF n u most (zJ n u most) (zJst n u most i).1 (zJst n u most i).2 n = some (zJp n u most i, x) := by
  obtain ⟨p, x, e⟩ := zjF_ex (most := most) (V := zJ n u most) h (zJst_ok (most := most) h i (by omega)).1 (zJst_ne (most := most) h hi) (zJst n u most i).2
  refine ⟨x, ?_⟩
  unfold zJp
  rw [e]
  rfl
def zLI (L : Option Nat) : Int32 := match L with
  | none => -1
  | some l => nI l
def zPI (o : Option (Nat × Nat)) : Int32 := match o with
  | none => -1
  | some (p, _) => nI p
def zPW (o : Option (Nat × Nat)) : Int32 := match o with
  | none => -1
  | some (_, x) => nI x
theorem znm1 {a : Nat} (h : a < 2 ^ 31) : nI a ≠ -1 := fun e => by
  have h1 := nI_pos h
  rw [e] at h1
  exact h1 (by decide)
/-- the class's table -/
def zJc (D : Nat → Int32) (n : Nat) (u : Nat → Nat) (most : Bool) (k : Nat) : Prop := ∀ s l, k < s → s < 2 ^ n → zid n u s = true → l < n → s.testBit l = true → D (8 * s + l) = nI (zJ n u most s l)
section ZJu
variable {X : zX} {I A : zF2} {t : zW} {q n : Nat} {u : Nat → Nat} {most : Bool}
theorem v_worth (h : zOR I A q n u) {s a y : Nat} {L : Option Nat} (hs : s < 2 ^ n) (ha : a < n) (hL : ∀ l, L = some l → l < n) (hy : A 88 (8 * (s ||| 2 ^ a) + a) = nI y) : zRd X 3 MX2_worth [.ref 87, .ref q, .int (nI s), .int (zLI L), .int (nI a)] (zWd I A t) (nI (zjj u L a + y)) := by
  have h8 := h.n8
  have h28 := z28 h8
  have ho := zor_lt hs ha
  have fin : ∀ z : Nat, zRn X 3 0 0 MX2_worth 31 [some (.ref 87), none, some (.int (nI s)), none, some (.int (nI a)), none] [.int (nI z)] (zWd I A t) (fun v w1 => v = some (.int (nI (z + y))) ∧ w1 = zWd I A t) := fun z => by
    refine bX2_worth_31 _ _ _ _ ⟨_, fr_87_0.rd, nI y, ?_, ?_⟩
    · rw [zb_1 a (by omega), zb_or]
      show zaI _ _ ((nI (s ||| 2 ^ a) &&& nI 255) * nI 8 + nI a) = _
      rw [zb_and, zand255 (by omega), pk_mul, nI_add, show (s ||| 2 ^ a) * 8 + a = 8 * (s ||| 2 ^ a) + a by omega, ar_88.rd (by omega), hy]
    · rw [nI_add]
      exact ⟨rfl, rfl⟩
  refine eX2_worth _ _ _ _ _ (bX2_worth_0 _ _ _ _ _ (zvRd h.1.ob (v_hasN h (by omega)) (by decide) ?_))
  rw [zB_ifP, if_pos ha]
  cases L with
  | none =>
    rw [if_pos (show zLI none = -1 from rfl)]
    exact bX2_worth_26 _ _ _ (fin 0)
  | some l =>
    have hl := hL l rfl
    rw [if_neg (show ¬ zLI (some l) = -1 from znm1 (by omega))]
    refine zvRd h.1.ob (v_under h (a := l) (by omega) (by omega)) (by decide) ?_
    rw [zB_if]
    show if zlt u l a = true then _ else _
    unfold zjj
    by_cases c : zlt u l a = true
    · rw [if_pos c]
      simp only [c, if_true]
      exact bX2_worth_26 _ _ _ (fin 0)
    · rw [if_neg c]
      simp only [c]
      exact fin 1
theorem v_worth0 (h : zOR I A q n u) (s : Nat) (L : Option Nat) : zRd X 3 MX2_worth [.ref 87, .ref q, .int (nI s), .int (zLI L), .int (-1)] (zWd I A t) (nI 0) := by
  refine eX2_worth _ _ _ _ _ (bX2_worth_0 _ _ _ _ _ (zvRd h.1.ob (v_has h (-1)) (by decide) ?_))
  rw [zB_ifP, if_neg (fun z => z.1 (by decide))]
  exact ⟨rfl, rfl⟩
theorem v_pick (h : zOR I A q n u) {s : Nat} {L : Option Nat} {V : Nat → Nat → Nat} (hs : s < 2 ^ n) (hL : ∀ l, L = some l → l < n) (hV : ∀ s l, V s l ≤ 9) (hD : ∀ a, zcf n u s a = true → A 88 (8 * (s ||| 2 ^ a) + a) = nI (V (s ||| 2 ^ a) a)) : zRd X 4 MX2_pick [.ref 87, .ref q, .int (nI s), .int (zLI L), .int (zB most)] (zWd I A t) (zPI (zjF n u most V s L n)) := by
  have h8 := h.n8
  have h28 := z28 h8
  refine eX2_pick _ _ _ _ _ (bX2_pick_0 _ _ _ _ _ ?_)
  refine zdown (P := fun k => zRn X 4 0 0 MX2_pick 9 [some (.ref 87), some (.ref q), some (.int (nI s)), some (.int (zLI L)), some (.int (zB most)), some (.int (zPI (zjF n u most V s L k))), some (.int (nI (zwo (zjF n u most V s L k)))), some (.int (nI k)), none] [] (zWd I A t) (fun v w1 => v = some (.int (zPI (zjF n u most V s L n))) ∧ w1 = zWd I A t)) (n := n) ?_ (fun k hk ih => ?_) 0 (Nat.zero_le _)
  · refine bX2_pick_9 _ _ _ _ _ _ _ _ (zvRd h.1.ob (v_size h) (by decide) ?_)
    rw [if_pos (Int32.le_refl _)]
    exact ⟨rfl, rfl⟩
  · refine bX2_pick_9 _ _ _ _ _ _ _ _ (zvRd h.1.ob (v_size h) (by decide) ?_)
    rw [zi_le (by omega) (by omega), if_neg (by omega)]
    refine zvRd h.1.ob (v_canFollow h (by omega) (by omega)) (by decide) ?_
    rw [zB_if]
    have hg := zjF_g n u most V s L k
    rw [zjF_s] at ih
    unfold zjS at ih
    generalize zjF n u most V s L k = o at *
    by_cases hc : zcf n u s k = true
    · rw [if_pos hc]
      rw [if_pos hc] at ih
      have hj := zjj_le u L k
      have hv := hV (s ||| 2 ^ k) k
      refine zvRd ob_87 (v_worth h hs hk hL (hD k hc)) (by decide) ?_
      have ew : zjj u L k + V (s ||| 2 ^ k) k = zjw u V s L k := rfl
      rw [ew]
      rw [ew] at *
      have hwl : zjw u V s L k ≤ 10 := by
        unfold zjw
        omega
      have take : zRn X 4 0 0 MX2_pick 9 [some (.ref 87), some (.ref q), some (.int (nI s)), some (.int (zLI L)), some (.int (zB most)), some (.int (nI k)), some (.int (nI (zjw u V s L k))), some (.int (nI (k + 1))), none] [] (zWd I A t) (fun v w1 => v = some (.int (zPI (zjF n u most V s L n))) ∧ w1 = zWd I A t) → zRn X 4 0 0 MX2_pick 67 [some (.ref 87), some (.ref q), some (.int (nI s)), some (.int (zLI L)), some (.int (zB most)), none, none, some (.int (nI k)), some (.int (nI (zjw u V s L k)))] [] (zWd I A t) (fun v w1 => v = some (.int (zPI (zjF n u most V s L n))) ∧ w1 = zWd I A t) := fun z => by
        refine bX2_pick_67 _ _ _ _ _ _ _ (bX2_pick_75 _ _ _ _ _ _ _ _ ?_)
        rw [nI_1]
        exact z
      cases o with
      | none =>
        rw [if_pos (show zPI none = -1 from rfl)]
        exact take ih
      | some o =>
        obtain ⟨p, x⟩ := o
        obtain ⟨g1, -, g3, -, -⟩ := hg
        have hx : x ≤ 10 := by
          have := zjj_le u L p
          have := hV (s ||| 2 ^ p) p
          unfold zjw at g3
          omega
        rw [if_neg (show ¬ zPI (some (p, x)) = -1 from znm1 (by omega)), zB_if]
        have keep : zRn X 4 0 0 MX2_pick 9 [some (.ref 87), some (.ref q), some (.int (nI s)), some (.int (zLI L)), some (.int (zB most)), some (.int (nI p)), some (.int (nI x)), some (.int (nI (k + 1))), none] [] (zWd I A t) (fun v w1 => v = some (.int (zPI (zjF n u most V s L n))) ∧ w1 = zWd I A t) → zRn X 4 0 0 MX2_pick 75 [some (.ref 87), some (.ref q), some (.int (nI s)), some (.int (zLI L)), some (.int (zB most)), some (.int (zPI (some (p, x)))), some (.int (nI (zwo (some (p, x))))), some (.int (nI k)), none] [] (zWd I A t) (fun v w1 => v = some (.int (zPI (zjF n u most V s L n))) ∧ w1 = zWd I A t) := fun z => by
          refine bX2_pick_75 _ _ _ _ _ _ _ _ ?_
          rw [nI_1]
          exact z
        have e1 : nI (zwo (some (p, x))) = nI x := rfl
        rw [e1] at *
        cases most
        · simp only [Bool.false_eq_true, if_false] at ih ⊢
          rw [zi_le (by omega) (by omega)]
          by_cases c : x ≤ zjw u V s L k
          · rw [if_pos c]
            rw [if_neg (by omega)] at ih
            exact keep ih
          · rw [if_neg c]
            rw [if_pos (by omega)] at ih
            exact take ih
        · simp only [if_true] at ih ⊢
          rw [zi_le (by omega) (by omega)]
          by_cases c : zjw u V s L k ≤ x
          · rw [if_pos c]
            rw [if_neg (by omega)] at ih
            exact keep ih
          · rw [if_neg c]
            rw [if_pos (by omega)] at ih
            exact take ih
    · rw [if_neg hc]
      rw [if_neg hc] at ih
      refine bX2_pick_75 _ _ _ _ _ _ _ _ ?_
      rw [nI_1]
      exact ih
/-- pick and worth, one behind the other -/
theorem v_pw (h : zOR I A q n u) {s : Nat} {L : Option Nat} (hs : s < 2 ^ n) (hL : ∀ l, L = some l → l < n) (hD : ∀ a, zcf n u s a = true → A 88 (8 * (s ||| 2 ^ a) + a) = nI (zJ n u most (s ||| 2 ^ a) a)) : zRd X 3 MX2_worth [.ref 87, .ref q, .int (nI s), .int (zLI L), .int (zPI (zjF n u most (zJ n u most) s L n))] (zWd I A t) (nI (zwo (zjF n u most (zJ n u most) s L n))) := by
  have hg := zjF_g n u most (zJ n u most) s L n
  generalize zjF n u most (zJ n u most) s L n = o at *
  cases o with
  | none => exact v_worth0 h s L
  | some o =>
    obtain ⟨p, x⟩ := o
    obtain ⟨g1, g2, g3, -, -⟩ := hg
    have h1 := v_worth (X := X) (t := t) h hs g1 hL (hD p g2)
    have e : zjj u L p + zJ n u most (s ||| 2 ^ p) p = x := g3
    rw [e] at h1
    exact h1
theorem zJc_rd {D : Nat → Int32} {k s : Nat} (h : zPo n u) (hJ : zJc D n u most k) (hs : s < 2 ^ n) (hk : k ≤ s) (hid : zid n u s = true) (a : Nat) (hc : zcf n u s a = true) : D (8 * (s ||| 2 ^ a) + a) = nI (zJ n u most (s ||| 2 ^ a) a) := by
  obtain ⟨h1, h2, -⟩ := zcf_s hc
  have hgt : s < s ||| 2 ^ a := by
    have h3 : s ≤ s ||| 2 ^ a := Nat.left_le_or
    have h4 : s ≠ s ||| 2 ^ a := fun e => by
      have : (s ||| 2 ^ a).testBit a = true := by
        rw [Nat.testBit_or, Nat.testBit_two_pow]
        simp
      rw [← e, h2] at this
      cases this
    omega
  refine hJ _ _ (by omega) (zor_lt hs h1) (zcf_id hid hc) h1 ?_
  rw [Nat.testBit_or, Nat.testBit_two_pow]
  simp
theorem v_jinner (h : zOR I A q n u) {s : Nat} (hs : s < 2 ^ n) (hid : zid n u s = true) {Q : Option Value → zW → Prop} (K : ∀ D : Nat → Int32, zJc D n u most (s - 1) → zRn X 6 0 0 MX2_measure 78 [some (.ref 87), some (.ref q), some (.int (zB most)), some (.int (nI s)), none, none] [] (zWd I (va_up A 88 D) t) Q) : ∀ l, l ≤ n → ∀ D : Nat → Int32, zJc D n u most s → (∀ l', l' < l → s.testBit l' = true → D (8 * s + l') = nI (zJ n u most s l')) → zRn X 6 0 0 MX2_measure 19 [some (.ref 87), some (.ref q), some (.int (zB most)), some (.int (nI s)), some (.int (zB (zid n u s))), some (.int (nI l))] [] (zWd I (va_up A 88 D) t) Q := by
  have h8 := h.n8
  have h28 := z28 h8
  refine zdown ?_ ?_
  · intro D hJ hl
    have h0 := h.up (p := 88) (f := D) (by decide)
    refine bX2_measure_19 _ _ _ _ _ _ ?_
    rw [zB_if, if_pos hid]
    refine zvRd h0.1.ob (v_size h0) (by decide) ?_
    rw [if_pos (Int32.le_refl _)]
    refine K D (fun s' l' g1 g2 g3 g4 g5 => ?_)
    rcases Nat.lt_or_ge s s' with q1 | q1
    · exact hJ s' l' q1 g2 g3 g4 g5
    · rcases Nat.eq_zero_or_pos s with q2 | q2
      · omega
      · have : s' = s := by omega
        subst this
        exact hl l' g4 g5
  · intro l hl ih D hJ hD
    have h0 := h.up (p := 88) (f := D) (by decide)
    refine bX2_measure_19 _ _ _ _ _ _ ?_
    rw [zB_if, if_pos hid]
    refine zvRd h0.1.ob (v_size h0) (by decide) ?_
    rw [zi_le (by omega) (by omega), if_neg (by omega), zi_has (by omega) (by omega)]
    by_cases hb : s.testBit l = true
    · rw [if_pos hb]
      have hR := fun a hc => zJc_rd h.2.1 hJ hs (Nat.le_refl _) hid a hc
      have hL : ∀ l', some l = some l' → l' < n := fun l' e => by cases e; exact hl
      have hA : ∀ a, zcf n u s a = true → va_up A 88 D 88 (8 * (s ||| 2 ^ a) + a) = nI (zJ n u most (s ||| 2 ^ a) a) := fun a hc => by
        rw [zup_eq]
        exact hR a hc
      refine ⟨_, fr_87_0.rd, zvRd ob_87 (v_pick h0 (L := some l) hs hL (zJ_le n u most) hA) (by decide) (zvRd ob_87 (v_pw h0 (L := some l) hs hL hA) (by decide) ?_)⟩
      rw [← zJ_eq h8 hs]
      refine ⟨zWd I (va_up A 88 (upd D (8 * s + l) (nI (zJ n u most s l)))) t, ?_, ?_⟩
      · show zsI _ _ (nI s * nI 8 + nI l) _ = _
        rw [pk_mul, nI_add, show s * 8 + l = 8 * s + l by omega, ar_88.wr (by omega), zup_eq, bx_uu]
      · refine bX2_measure_72 _ _ _ _ _ _ ?_
        rw [nI_1]
        refine ih _ (fun s' l' g1 g2 g3 g4 g5 => ?_) (fun l' g1 g2 => ?_)
        · rw [upd_ne _ _ (by omega)]
          exact hJ s' l' g1 g2 g3 g4 g5
        · by_cases e : l' = l
          · rw [e, upd_eq]
          · rw [upd_ne _ _ (by omega)]
            exact hD l' (by omega) g2
    · rw [if_neg hb]
      refine bX2_measure_72 _ _ _ _ _ _ ?_
      rw [nI_1]
      refine ih D hJ (fun l' g1 g2 => ?_)
      by_cases e : l' = l
      · rw [e] at g2
        exact absurd g2 hb
      · exact hD l' (by omega) g2
theorem v_jmeasure (h : zOR I A q n u) : zEv X 6 0 0 MX2_measure [.ref 87, .ref q, .int (zB most)] (zWd I A t) (fun v w1 => v = none ∧ ∃ D, w1 = zWd I (va_up A 88 D) t ∧ zJc D n u most 0) := by
  have h8 := h.n8
  have h28 := z28 h8
  have hp1 := Nat.one_le_two_pow (n := n)
  refine eX2_measure _ _ _ (bX2_measure_0 _ _ _ (zvRd h.1.ob (v_all h) (by decide) ?_))
  have key : ∀ k, k ≤ 2 ^ n - 1 → ∀ D : Nat → Int32, zJc D n u most k → zRn X 6 0 0 MX2_measure 5 [some (.ref 87), some (.ref q), some (.int (zB most)), some (.int (nI k)), none, none] [] (zWd I (va_up A 88 D) t) (fun v w1 => v = none ∧ ∃ D, w1 = zWd I (va_up A 88 D) t ∧ zJc D n u most 0) := by
    intro k
    induction k with
    | zero =>
      intro _ D hJ
      refine bX2_measure_5 _ _ _ _ ?_
      rw [if_pos (by decide)]
      exact ⟨rfl, D, rfl, hJ⟩
    | succ k ih =>
      intro hk D hJ
      have h0 := h.up (p := 88) (f := D) (by decide)
      refine bX2_measure_5 _ _ _ _ ?_
      show if nI (k + 1) ≤ nI 0 then _ else _
      rw [zi_le (by omega) (by omega), if_neg (by omega)]
      refine zvRd h0.1.ob (v_isIdeal h0 (by omega)) (by decide) ?_
      have e1 : nI (k + 1) - 1 = nI k := by
        show nI (k + 1) - nI 1 = nI k
        rw [pk_sub (by omega)]
        rfl
      by_cases hid : zid n u (k + 1) = true
      · refine v_jinner h (s := k + 1) (by omega) hid (fun D' hJ' => ?_) 0 (Nat.zero_le _) D hJ (fun l' hl' => absurd hl' (Nat.not_lt_zero _))
        refine bX2_measure_78 _ _ _ _ ?_
        rw [e1]
        exact ih (by omega) D' hJ'
      · refine bX2_measure_19 _ _ _ _ _ _ ?_
        rw [zB_if, if_neg hid]
        refine bX2_measure_78 _ _ _ _ ?_
        rw [e1]
        refine ih (by omega) D (fun s' l' g1 g2 g3 g4 g5 => ?_)
        rcases Nat.lt_or_ge (k + 1) s' with q1 | q1
        · exact hJ s' l' q1 g2 g3 g4 g5
        · have : s' = k + 1 := by omega
          subst this
          exact absurd g3 hid
  have k0 := key (2 ^ n - 1) (Nat.le_refl _) (A 88) (fun s' l' g1 g2 => by omega)
  rw [zup_self] at k0
  exact k0
theorem v_extreme (h : zOR I A q n u) : zEv X 7 0 0 MX2_extreme [.ref 87, .ref q, .int (zB most)] (zWd I A t) (fun v w1 => v = some (.int (nI (zwo (zjF n u most (zJ n u most) 0 none n)))) ∧ ∃ D, w1 = zWd I (va_up A 88 D) t) := by
  refine eX2_extreme _ _ _ (bX2_extreme_0 _ _ _ (zvV ob_87 (v_jmeasure h) (by decide) ?_))
  rintro w1 ⟨D, rfl, hJ⟩
  have h0 := h.up (p := 88) (f := D) (by decide)
  have hA : ∀ a, zcf n u 0 a = true → va_up A 88 D 88 (8 * (0 ||| 2 ^ a) + a) = nI (zJ n u most (0 ||| 2 ^ a) a) := fun a hc => by
    rw [zup_eq]
    exact zJc_rd h.2.1 hJ (Nat.two_pow_pos n) (Nat.le_refl _) (zid_0 n u) a hc
  refine zvRd ob_87 (v_pick h0 (L := none) (s := 0) (Nat.two_pow_pos n) (fun l e => by cases e) (zJ_le n u most) hA) (by decide) (zvRd ob_87 (v_pw h0 (L := none) (s := 0) (Nat.two_pow_pos n) (fun l e => by cases e) hA) (by decide) ?_)
  exact ⟨rfl, D, rfl⟩
theorem v_jthing (h : zOR I A q n u) {p : Nat} (hp : p < n) : zEv X 7 0 0 MX2_thingAt [.ref 87, .ref q, .int (zB most), .int (nI p)] (zWd I A t) (fun v w1 => v = some (.int (nI (zJp n u most p))) ∧ ∃ D, w1 = zWd I (va_up A 88 D) t) := by
  have h8 := h.n8
  have h28 := z28 h8
  refine eX2_thingAt _ _ _ _ (bX2_thingAt_0 _ _ _ _ (zvV ob_87 (v_jmeasure h) (by decide) ?_))
  rintro w1 ⟨D, rfl, hJ⟩
  have h0 := h.up (p := 88) (f := D) (by decide)
  refine zdown (P := fun i => zRn X 7 0 0 MX2_thingAt 15 [some (.ref 87), some (.ref q), some (.int (zB most)), some (.int (nI p)), some (.int (nI (zJst n u most i).1)), some (.int (zLI (zJst n u most i).2)), some (.int (nI i))] [] (zWd I (va_up A 88 D) t) (fun v w1 => v = some (.int (nI (zJp n u most p))) ∧ ∃ D, w1 = zWd I (va_up A 88 D) t)) (n := p + 1) ?_ (fun i hi ih => ?_) 0 (Nat.zero_le _)
  · refine bX2_thingAt_15 _ _ _ _ _ _ _ ?_
    rw [zi_lt (by omega) (by omega), if_pos (by omega), zJst_s]
    exact ⟨rfl, D, rfl⟩
  · obtain ⟨g1, g2, g3, g4⟩ := zJst_ok (most := most) h.2.1 i (by omega)
    obtain ⟨x, hx⟩ := zJp_ok (most := most) h.2.1 (show i < n by omega)
    have hg := zjF_g n u most (zJ n u most) (zJst n u most i).1 (zJst n u most i).2 n
    rw [hx] at hg
    have hA : ∀ a, zcf n u (zJst n u most i).1 a = true → va_up A 88 D 88 (8 * ((zJst n u most i).1 ||| 2 ^ a) + a) = nI (zJ n u most ((zJst n u most i).1 ||| 2 ^ a) a) := fun a hc => by
      rw [zup_eq]
      exact zJc_rd h.2.1 hJ g1 (Nat.zero_le _) g2 a hc
    refine bX2_thingAt_15 _ _ _ _ _ _ _ ?_
    rw [zi_lt (by omega) (by omega), if_neg (by omega)]
    refine zvRd h0.1.ob (v_size h0) (by decide) ?_
    rw [zi_le (by omega) (by omega), if_neg (by omega)]
    have hpk := v_pick (X := X) (t := t) (most := most) h0 g1 g4 (zJ_le n u most) hA
    rw [hx] at hpk
    refine zvRd ob_87 hpk (by decide) ?_
    rw [zJst_s] at ih
    show zRn X 7 0 0 _ _ [_, _, _, _, some (.int (_ ||| ((1 : Int32) <<< (nI (zJp n u most i) &&& 31)))), some (.int (nI (zJp n u most i))), _] _ _ _
    have := hg.1
    rw [zb_1 _ (by omega), zb_or, nI_1]
    exact ih
end ZJu
