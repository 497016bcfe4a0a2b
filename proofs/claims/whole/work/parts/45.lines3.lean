/-! ===== every cut of all lines; the greatest common divisor; rows ===== -/
theorem zcut {n : Nat} {u : Nat → Nat} (hn : n ≤ 8) : ∀ i, i ≤ n → zsm (2 ^ n) (fun s => if zpc s = i then zFl n u s * zGl n u s else 0) = zGl n u 0 := by
  have h8 := z28 hn
  have hp := Nat.one_le_two_pow (n := n)
  intro i
  induction i with
  | zero =>
    intro _
    have e : zsm (1 + (2 ^ n - 1)) (fun s => if zpc s = 0 then zFl n u s * zGl n u s else 0) = zGl n u 0 := by
      rw [zsm_split, zsm_0 (g := fun j => if zpc (1 + j) = 0 then zFl n u (1 + j) * zGl n u (1 + j) else 0) (fun j hj => by
        rw [if_neg]
        intro h0
        have h1 : 1 + j ≠ 0 := by omega
        obtain ⟨b, hb⟩ := zne0.mp h1
        have hb8 : b < 8 := by
          rcases Nat.lt_or_ge b 8 with q | q
          · exact q
          · rw [zbit_hi (n := 8) (show 1 + j < 2 ^ 8 by omega) q] at hb
            cases hb
        have := (zpc_out (1 + j) (by omega) b hb8).1 hb
        omega)]
      rw [zsm_s, zsm_z, zpc0, if_pos rfl, zFl_eq hn (by decide), if_pos rfl, zsm_0 (fun a ha => by unfold zla1; rw [show Nat.testBit 0 a = false by simp]; rfl)]
      omega
    rw [show 1 + (2 ^ n - 1) = 2 ^ n by omega] at e
    exact e
  | succ i ih =>
    intro hi
    rw [← ih (by omega)]
    have e1 : zsm (2 ^ n) (fun s => if zpc s = i then zFl n u s * zGl n u s else 0) = zsm n (fun a => zsm (2 ^ n) (fun s => if zpc s = i ∧ zcf n u s a = true then zFl n u s * zGl n u (s ||| 2 ^ a) else 0)) := by
      rw [← zsm_swap]
      refine zsm_cong (fun s hs => ?_)
      by_cases c : zpc s = i
      · rw [if_pos c, zGl_eq hn hs, if_neg (fun e => by rw [e, zpc_full n hn] at c; omega), Nat.zero_add, ← zsm_mul]
        refine zsm_cong (fun a ha => ?_)
        by_cases c2 : zcf n u s a = true
        · rw [if_pos c2, if_pos ⟨c, c2⟩]
        · rw [if_neg c2, if_neg (fun z => c2 z.2), Nat.mul_zero]
      · rw [if_neg c, zsm_0 (fun a ha => by rw [if_neg (fun z => c z.1)])]
    have e2 : zsm (2 ^ n) (fun s => if zpc s = i + 1 then zFl n u s * zGl n u s else 0) = zsm n (fun a => zsm (2 ^ n) (fun s => if zpc s = i + 1 ∧ zla1 u s a = true then zFl n u (zdf s (2 ^ a)) * zGl n u s else 0)) := by
      rw [← zsm_swap]
      refine zsm_cong (fun s hs => ?_)
      by_cases c : zpc s = i + 1
      · rw [if_pos c, zFl_eq hn (by omega), if_neg (fun e => by rw [e, zpc0] at c; omega), Nat.zero_add, Nat.mul_comm, ← zsm_mul]
        refine zsm_cong (fun a ha => ?_)
        by_cases c2 : zla1 u s a = true
        · rw [if_pos c2, if_pos ⟨c, c2⟩, Nat.mul_comm]
        · rw [if_neg c2, if_neg (fun z => c2 z.2), Nat.mul_zero]
      · rw [if_neg c, zsm_0 (fun a ha => by rw [if_neg (fun z => c z.1)])]
    rw [e1, e2]
    refine zsm_cong (fun a ha => ?_)
    rw [← zsm_xor (fun s => if zpc s = i + 1 ∧ zla1 u s a = true then zFl n u (zdf s (2 ^ a)) * zGl n u s else 0) ha]
    refine zsm_cong (fun s hs => ?_)
    show (if zpc (s ^^^ 2 ^ a) = i + 1 ∧ zla1 u (s ^^^ 2 ^ a) a = true then zFl n u (zdf (s ^^^ 2 ^ a) (2 ^ a)) * zGl n u (s ^^^ 2 ^ a) else 0) = _
    unfold zcf zla1
    rw [zxb]
    cases hb : s.testBit a
    · have := (zpc_out s (by omega) a (by omega)).2 hb
      rw [zdx (s := s ^^^ 2 ^ a) (by rw [zxb, hb]; rfl), zxx, ← zox hb]
      have e3 : (zpc (s ||| 2 ^ a) = i + 1) ↔ (zpc s = i) := by omega
      simp [ha, e3]
    · simp
theorem zGl_pos {n : Nat} {u : Nat → Nat} (h : zPo n u) : 0 < zGl n u 0 := by
  rw [← zFG h.1]
  have hp := Nat.one_le_two_pow (n := n)
  refine (zFl_pos h (by omega)).mpr (zid_iff.mpr (fun a ha _ => ?_))
  rw [zdf0]
  intro i hi
  rw [Nat.testBit_two_pow_sub_one]
  have := (h.lt (a := i) (b := a) hi).1
  simp [this]
theorem zAt_le {n : Nat} {u : Nat → Nat} (hn : n ≤ 8) (a i : Nat) (hi : i < n) : zAt n u a i ≤ zGl n u 0 := by
  rw [← zcut (u := u) hn i (by omega)]
  unfold zAt
  refine zsm_le (fun s hs => ?_)
  by_cases c : zpc s = i
  · rw [if_pos c]
    by_cases c2 : zcf n u s a = true ∧ zid n u s = true
    · rw [if_pos ⟨c, c2⟩]
      refine Nat.mul_le_mul_left _ ?_
      rw [zGl_eq hn hs]
      have := zsm_ge (g := fun a => if zcf n u s a = true then zGl n u (s ||| 2 ^ a) else 0) (zcf_s c2.1).1
      simp only [c2.1, if_true] at this
      omega
    · rw [if_neg (fun z => c2 z.2)]
      exact Nat.zero_le _
  · rw [if_neg (fun z => c z.1)]
    exact Nat.zero_le _
theorem zPS_31 {n : Nat} {u : Nat → Nat} (hn : n ≤ 8) (a : Nat) : zPS n u a ≤ 1073741824 := by
  unfold zPS
  have h1 := zGl_31 (u := u) hn (Nat.two_pow_pos n)
  have h2 : zsm n (fun i => i * zAt n u a i) ≤ n * (8 * 16777216) := zsm_bd (fun i hi => by
    have := zAt_le (u := u) hn a i hi
    exact Nat.mul_le_mul (by omega) (by omega))
  have h3 : n * (8 * 16777216) ≤ 8 * (8 * 16777216) := Nat.mul_le_mul_right _ hn
  omega
/-- Euclid halves in two steps -/
theorem zeuc {a b k : Nat} (hb : b < 2 ^ (k + 1)) (h0 : 0 < b) (hr : a % b ≠ 0) : b % (a % b) < 2 ^ k := by
  have h1 := Nat.mod_lt a h0
  have h2 := Nat.mod_lt b (Nat.pos_of_ne_zero hr)
  rw [Nat.pow_succ] at hb
  rcases Nat.lt_or_ge (a % b) (2 ^ k) with q | q
  · omega
  · have h3 : b % (a % b) = b - a % b := by
      rw [Nat.mod_eq_sub_mod (by omega), Nat.mod_eq_of_lt (by omega)]
    omega
section ZGc
variable {X : zX} {w : zW}
theorem m_common : ∀ (k a b : Nat), b < 2 ^ k → a < 2 ^ 31 → b < 2 ^ 31 → zRd X (2 * k) MX12_common [.int (nI a), .int (nI b)] w (nI (Nat.gcd a b))
  | 0, a, b, hb, ha, _ => by
    have : b = 0 := by simpa using hb
    subst this
    refine eX12_common _ _ (bX12_common_0 _ _ ?_)
    rw [if_pos (show nI 0 = 0 from rfl), Nat.gcd_zero_right]
    exact ⟨rfl, rfl⟩
  | k + 1, a, b, hb, ha, hb31 => by
    refine eX12_common _ _ (bX12_common_0 _ _ ?_)
    rw [zi_0 hb31]
    by_cases h0 : b = 0
    · subst h0
      rw [if_pos rfl, Nat.gcd_zero_right]
      exact ⟨rfl, rfl⟩
    · rw [if_neg h0]
      refine ⟨by rw [zb_0 hb31]; exact h0, ?_⟩
      rw [pk_rem ha (Nat.pos_of_ne_zero h0) hb31]
      have hlt := Nat.mod_lt a (Nat.pos_of_ne_zero h0)
      have hg : Nat.gcd a b = Nat.gcd b (a % b) := by rw [Nat.gcd_comm, Nat.gcd_rec, Nat.gcd_comm]
      refine zcRd (d1 := 2 * k + 1) (x := nI (Nat.gcd b (a % b))) ?_ (by omega) ⟨by rw [hg], rfl⟩
      refine eX12_common _ _ (bX12_common_0 _ _ ?_)
      rw [zi_0 (by omega)]
      by_cases hr : a % b = 0
      · rw [if_pos hr, hr, Nat.gcd_zero_right]
        exact ⟨rfl, rfl⟩
      · rw [if_neg hr]
        refine ⟨by rw [zb_0 (by omega)]; exact hr, ?_⟩
        rw [pk_rem hb31 (Nat.pos_of_ne_zero hr) (by omega)]
        have hl2 := Nat.mod_lt b (Nat.pos_of_ne_zero hr)
        have hg2 : Nat.gcd b (a % b) = Nat.gcd (a % b) (b % (a % b)) := by rw [Nat.gcd_comm, Nat.gcd_rec, Nat.gcd_comm]
        exact zcRd (m_common k (a % b) (b % (a % b)) (zeuc hb (Nat.pos_of_ne_zero h0) hr) (by omega) (by omega)) (by omega) ⟨by rw [hg2], rfl⟩
theorem v_commonL {Q : Option Value → zW → Prop} : ∀ (k a b j : Nat), b < 2 ^ k → a < 2 ^ 31 → b < 2 ^ 31 → j + 2 * k ≤ 62 → Q (some (.int (nI (Nat.gcd a b)))) w → zRn X 0 0 0 MX11_commonDivisor 7 [none, none, some (.int (nI a)), some (.int (nI b)), some (.int (nI j)), none] [] w Q
  | 0, a, b, j, hb, ha, _, hj, hQ => by
    have : b = 0 := by simpa using hb
    subst this
    rw [Nat.gcd_zero_right] at hQ
    refine bX11_commonDivisor_7 _ _ _ ?_
    split
    · exact hQ
    · rw [if_pos (show nI 0 = 0 from rfl)]
      exact hQ
  | k + 1, a, b, j, hb, ha, hb31, hj, hQ => by
    refine bX11_commonDivisor_7 _ _ _ ?_
    have e : ¬ (64 : Int32) ≤ nI j := by
      show ¬ nI 64 ≤ nI j
      rw [zb_le (by decide) (by omega)]
      omega
    rw [if_neg e, zi_0 hb31]
    by_cases h0 : b = 0
    · subst h0
      rw [Nat.gcd_zero_right] at hQ
      rw [if_pos rfl]
      exact hQ
    · rw [if_neg h0]
      refine ⟨by rw [zb_0 hb31]; exact h0, ?_⟩
      rw [pk_rem ha (Nat.pos_of_ne_zero h0) hb31, nI_1]
      have hlt := Nat.mod_lt a (Nat.pos_of_ne_zero h0)
      have hg : Nat.gcd a b = Nat.gcd b (a % b) := by rw [Nat.gcd_comm, Nat.gcd_rec, Nat.gcd_comm]
      rw [hg] at hQ
      refine bX11_commonDivisor_7 _ _ _ ?_
      have e2 : ¬ (64 : Int32) ≤ nI (j + 1) := by
        show ¬ nI 64 ≤ nI (j + 1)
        rw [zb_le (by decide) (by omega)]
        omega
      rw [if_neg e2, zi_0 (by omega)]
      by_cases hr : a % b = 0
      · rw [hr, Nat.gcd_zero_right] at hQ
        rw [if_pos hr]
        exact hQ
      · rw [if_neg hr]
        refine ⟨by rw [zb_0 (by omega)]; exact hr, ?_⟩
        rw [pk_rem hb31 (Nat.pos_of_ne_zero hr) (by omega), nI_1]
        have hl2 := Nat.mod_lt b (Nat.pos_of_ne_zero hr)
        have hg2 : Nat.gcd b (a % b) = Nat.gcd (a % b) (b % (a % b)) := by rw [Nat.gcd_comm, Nat.gcd_rec, Nat.gcd_comm]
        rw [hg2] at hQ
        exact v_commonL k (a % b) (b % (a % b)) (j + 2) (zeuc hb (Nat.pos_of_ne_zero h0) hr) (by omega) (by omega) (by omega) hQ
theorem v_commonDivisor {a b : Nat} (ha : a < 2 ^ 31) (hb : b < 2 ^ 31) : zRd X 0 MX11_commonDivisor [.int (nI a), .int (nI b)] w (nI (Nat.gcd a b)) := by
  refine eX11_commonDivisor _ _ (bX11_commonDivisor_0 _ _ ?_)
  exact v_commonL 31 a b 0 hb ha hb (by omega) ⟨rfl, rfl⟩
end ZGc
/-- the things of the first i places of a row -/
def zRw (f : Nat → Nat) : Nat → Nat := zit (fun j x => x ||| 2 ^ f j) 0
theorem zRw_s (f : Nat → Nat) (i : Nat) : zRw f (i + 1) = zRw f i ||| 2 ^ f i := rfl
theorem zRw_z (f : Nat → Nat) : zRw f 0 = 0 := rfl
theorem zRw_bit (f : Nat → Nat) (a : Nat) : ∀ i, (zRw f i).testBit a = true ↔ ∃ j, j < i ∧ f j = a
  | 0 => by
    rw [zRw_z]
    simp
  | i + 1 => by
    rw [zRw_s, Nat.testBit_or, Nat.testBit_two_pow, Bool.or_eq_true, zRw_bit f a i, decide_eq_true_eq]
    constructor
    · rintro (⟨j, h1, h2⟩ | h1)
      · exact ⟨j, by omega, h2⟩
      · exact ⟨i, by omega, h1⟩
    · rintro ⟨j, h1, h2⟩
      rcases Nat.lt_or_ge j i with q | q
      · exact Or.inl ⟨j, q, h2⟩
      · have : j = i := by omega
        subst this
        exact Or.inr h2
theorem zRw_lt {n : Nat} {f : Nat → Nat} (hf : ∀ i, i < n → f i < n) : ∀ i, i ≤ n → zRw f i < 2 ^ n
  | 0, _ => Nat.two_pow_pos n
  | i + 1, hi => by
    rw [zRw_s]
    exact zor_lt (zRw_lt hf i (by omega)) (hf i (by omega))
theorem zRw_new {n : Nat} {f : Nat → Nat} (hj : ∀ i j, i < n → j < n → f i = f j → i = j) {i : Nat} (hi : i < n) : (zRw f i).testBit (f i) = false := by
  cases hb : (zRw f i).testBit (f i)
  · rfl
  · obtain ⟨j, h1, h2⟩ := (zRw_bit f (f i) i).mp hb
    have := hj j i (by omega) hi h2
    omega
/-- a row is a line; which one -/
def zIL (n : Nat) (u : Nat → Nat) (f : Nat → Nat) : Bool := zall n (fun i => decide (zdf (u (f i)) (zRw f i) = 0))
def zNr (n : Nat) (u : Nat → Nat) (f : Nat → Nat) : Nat := zsm n (fun i => zsm (f i) (zWG n u (zRw f i)))
theorem zIL_id {n : Nat} {u : Nat → Nat} {f : Nat → Nat} (hf : ∀ i, i < n → f i < n) (hj : ∀ i j, i < n → j < n → f i = f j → i = j) : ∀ i, i ≤ n → (∀ j, j < i → zdf (u (f j)) (zRw f j) = 0) → zid n u (zRw f i) = true
  | 0, _, _ => zid_0 n u
  | i + 1, hi, h => by
    have ih := zIL_id hf hj i (by omega) (fun j q => h j (by omega))
    rw [zRw_s]
    refine zcf_id ih ?_
    unfold zcf
    rw [zRw_new hj (by omega), h i (by omega)]
    simp [hf i (by omega)]
theorem zHo.f {n R : Nat} {h : Nat → Nat → Nat} (H : zHo n R h) {r : Nat} (hr : r < R) : (∀ i, i < n → h r i < n) ∧ ∀ i j, i < n → j < n → h r i = h r j → i = j := ⟨fun i hi => H.2.1 r i hr hi, fun i j hi hj e => H.2.2.1 r i j hr hi hj e⟩
/-- rows at place q -/
def zRR (I A : zF2) (q n R : Nat) (h : Nat → Nat → Nat) : Prop := zHo n R h ∧ I (q + 3) 1 = nI R ∧ ∀ r i, r < R → i < n → A (q + 4) (8 * r + i) = nI (h r i)
/-- a method that only reads and answers a place -/
def zRf (X : zX) (d : Nat) (M : zM) (av : List Value) (w : zW) (x : Nat) : Prop := zEv X d 0 0 M av w (fun v w1 => v = some (.ref x) ∧ w1 = w)
theorem zvRf {X : zX} {d d1 : Nat} {N : zM} {p ci : Nat} {av : List Value} {I A : zF2} {t : zW} {x : Nat} {K : Nat → zW → Prop} (ho : zOb p ci) (h : zRf X d1 N av (zWd I A t) x) (hd : d1 < d) (k : K x (zWd I A t)) : zIs (zWd I A t) p ci ∧ zCallR X d N av (zWd I A t) K := ⟨ho.is, d1, _, hd, h, fun v w1 ⟨e1, e2⟩ => ⟨x, e1, by rw [e2]; exact k⟩⟩
section ZRo
variable {X : zX} {I A : zF2} {t : zW} {q n R : Nat} {u : Nat → Nat} {h : Nat → Nat → Nat}
theorem v_rowsOf (hq : zOq q) : zRf X 0 MX5_rows [.ref q] (zWd I A t) (q + 3) := eX5_rows _ (bX5_rows_0 _ ⟨_, hq.rw.rd, rfl, rfl⟩)
theorem v_rsize (hq : zOq q) : zRd X 0 MX8_size [.ref (q + 3)] (zWd I A t) (I (q + 3) 1) := eX8_size _ (bX8_size_0 _ ⟨_, hq.rsz.rd, rfl, rfl⟩)
theorem v_isPlace {w : zW} {r i : Nat} (hr : r < 6) (hi : i < 8) : zRd X 0 MX8_isPlace [.int (nI r), .int (nI i)] w 1 := by
  refine eX8_isPlace _ _ (bX8_isPlace_0 _ _ ?_)
  rw [if_neg (nI_pos (by omega)), if_neg (by show ¬ nI 6 ≤ nI r; rw [zb_le (by decide) (by omega)]; omega), if_neg (nI_pos (by omega)), if_neg (by show ¬ nI 8 ≤ nI i; rw [zb_le (by decide) (by omega)]; omega)]
  exact ⟨rfl, rfl⟩
theorem v_rget (hq : zOq q) {r i : Nat} (hr : r < 6) (hi : i < 8) : zRd X 1 MX8_thingAt [.ref (q + 3), .int (nI r), .int (nI i)] (zWd I A t) (A (q + 4) (8 * r + i)) := by
  refine eX8_thingAt _ _ _ (bX8_thingAt_0 _ _ _ (zcRd (v_isPlace hr hi) (by decide) ?_))
  rw [if_neg (by decide)]
  refine ⟨_, hq.rh.rd, _, ?_, rfl, rfl⟩
  show zaI _ _ (nI r * nI 8 + nI i) = _
  rw [pk_mul, nI_add, Nat.mul_comm]
  exact hq.hA.rd (by omega)
theorem v_rthing (hq : zOq q) (H : zRR I A q n R h) (hn : n ≤ 8) {r i : Nat} (hr : r < R) (hi : i < n) : zRd X 1 MX8_thingAt [.ref (q + 3), .int (nI r), .int (nI i)] (zWd I A t) (nI (h r i)) := by
  have := v_rget (X := X) (I := I) (A := A) (t := t) hq (r := r) (i := i) (by have := H.1.1; omega) (by omega)
  rw [H.2.2 r i hr hi] at this
  exact this
theorem v_numberOf (h0 : zOR I A q n u) (hL : zLn A n u) (H : zRR I A q n R h) {r : Nat} (hr : r < R) : zRd X 3 MX4_numberOf [.ref 84, .ref q, .int (nI r)] (zWd I A t) (if zIL n u (h r) = true then nI (zNr n u (h r)) else -1) := by
  have h8 := h0.n8
  have h28 := z28 h8
  obtain ⟨f1, f2⟩ := H.1.f hr
  generalize hf : h r = f at *
  refine eX4_numberOf _ _ _ (bX4_numberOf_0 _ _ _ ?_)
  refine zdown (P := fun i => (∀ j, j < i → zdf (u (f j)) (zRw f j) = 0) → zRn X 3 0 0 MX4_numberOf 8 [some (.ref 84), some (.ref q), some (.int (nI r)), some (.int (nI (zsm i (fun i => zsm (f i) (zWG n u (zRw f i)))))), some (.int (nI (zRw f i))), some (.int (nI i)), none, none] [] (zWd I A t) _) (n := n) (fun hi => ?_) (fun i hi ih hp => ?_) 0 (Nat.zero_le _) (fun j hj => absurd hj (Nat.not_lt_zero _))
  · refine bX4_numberOf_8 _ _ _ _ _ _ (zvRd h0.1.ob (v_size h0) (by decide) ?_)
    rw [if_pos (Int32.le_refl _)]
    have e : zIL n u f = true := zall_iff.mpr (fun a ha => decide_eq_true (hi a ha))
    rw [if_pos e]
    exact ⟨rfl, rfl⟩
  · have hlt := zRw_lt f1 i (by omega)
    have hfi := f1 i hi
    refine bX4_numberOf_8 _ _ _ _ _ _ (zvRd h0.1.ob (v_size h0) (by decide) ?_)
    rw [zi_le (by omega) (by omega), if_neg (by omega)]
    have e1 := v_rthing (X := X) (t := t) h0.1 H h8 hr hi
    rw [hf] at e1
    refine zvRf h0.1.ob (v_rowsOf h0.1) (by decide) (zvRd h0.1.rob e1 (by decide) (zvRd h0.1.ob (v_canFollow h0 (by omega) (by omega)) (by decide) ?_))
    rw [zB_if]
    have ec : zcf n u (zRw f i) (f i) = decide (zdf (u (f i)) (zRw f i) = 0) := by
      unfold zcf
      rw [zRw_new f2 hi]
      simp [hfi]
    rw [ec]
    by_cases hc : zdf (u (f i)) (zRw f i) = 0
    · rw [if_pos (decide_eq_true hc)]
      have hp2 : ∀ j, j < i + 1 → zdf (u (f j)) (zRw f j) = 0 := fun j hj => by
        rcases Nat.lt_or_ge j i with z | z
        · exact hp j z
        · have : j = i := by omega
          subst this
          exact hc
      have ih := ih hp2
      rw [zsm_s, zRw_s] at ih
      have hid := zIL_id f1 f2 i (by omega) hp
      generalize zsm i (fun i => zsm (f i) (zWG n u (zRw f i))) = S at *
      have inner : ∀ j, j ≤ f i → zRn X 3 0 0 MX4_numberOf 45 [some (.ref 84), some (.ref q), some (.int (nI r)), some (.int (nI (S + zsm j (zWG n u (zRw f i))))), some (.int (nI (zRw f i))), some (.int (nI i)), some (.int (nI (f i))), some (.int (nI j))] [] (zWd I A t) (fun v w1 => v = some (.int (if zIL n u f = true then nI (zNr n u f) else -1)) ∧ w1 = zWd I A t) := by
        refine zdown ?_ ?_
        · refine bX4_numberOf_45 _ _ _ _ _ _ _ _ ?_
          rw [if_pos (Int32.le_refl _), zb_1 _ (by omega), zb_or, nI_1]
          exact ih
        · intro j hj ihj
          refine bX4_numberOf_45 _ _ _ _ _ _ _ _ ?_
          rw [zi_le (by omega) (by omega), if_neg (by omega)]
          refine zvRd ob_84 (v_waysWith h0 hL hlt (by omega)) (by decide) ?_
          rw [zsm_s] at ihj
          rw [zWy_id h0.2.1 hlt hid, nI_add, nI_1, Nat.add_assoc]
          exact ihj
      have i0 := inner 0 (Nat.zero_le _)
      rw [zsm_z, Nat.add_zero] at i0
      exact i0
    · rw [if_neg (by rw [decide_eq_true_eq]; exact hc)]
      have e : zIL n u f = false := zall_no hi (decide_eq_false hc)
      rw [e]
      exact ⟨rfl, rfl⟩
end ZRo
section ZMr
variable {X : zX} {I A : zF2} {t : zW} {s n R : Nat} {u : Nat → Nat} {h : Nat → Nat → Nat}
theorem m_isLine (H : zMR A s n u R h) {r : Nat} (hr : r < R) : zRd X 2 MX12_isLine [.ref 98, .int (nI s), .int (nI r)] (zWd I A t) (zB (zIL n u (h r))) := by
  have h8 := H.2.1.1
  have h28 := z28 h8
  have hr6 := H.2.2.1.1
  obtain ⟨f1, f2⟩ := H.2.2.1.f hr
  refine eX12_isLine _ _ _ (bX12_isLine_0 _ _ _ ?_)
  refine zloopA (R := fun i b => zRn X 2 0 0 MX12_isLine 5 [some (.ref 98), some (.int (nI s)), some (.int (nI r)), some (.int (nI (zRw (h r) i))), some (.int (nI i)), none] [] (zWd I A t) (fun v w1 => v = some (.int (zB b)) ∧ w1 = zWd I A t)) ?_ (fun i hi b h1 h2 => ?_)
  · refine bX12_isLine_5 _ _ _ _ _ (zvRd ob_98 (m_many H) (by decide) ?_)
    rw [if_pos (Int32.le_refl _)]
    exact ⟨rfl, rfl⟩
  · have hfi := f1 i hi
    refine bX12_isLine_5 _ _ _ _ _ (zvRd ob_98 (m_many H) (by decide) ?_)
    rw [zi_le (by omega) (by omega), if_neg (by omega)]
    refine zvRd ob_98 (m_rowAt H (by omega) (by omega)) (by decide) (zvRd ob_98 (m_under H (by omega)) (by decide) ?_)
    have hz : zdf (u (h r i)) (zRw (h r) i) < 2 ^ 8 := zdf_lt (H.2.1.u31 _)
    rw [zb_df, zi_0 (by omega)]
    by_cases hc : zdf (u (h r i)) (zRw (h r) i) = 0
    · rw [if_pos hc, zb_1 _ (by omega), zb_or, nI_1]
      have := h1 (decide_eq_true hc)
      rw [zRw_s] at this
      exact this
    · rw [if_neg hc, h2 (decide_eq_false hc)]
      exact ⟨rfl, rfl⟩
theorem m_laysLine (H : zMR A s n u R h) {k : Nat} (hk : k < 2 ^ 31) : zEv X 3 0 0 MX12_laysLine [.ref 98, .int (nI s), .int (nI k)] (zWd I A t) (fun v w1 => v = some (.int (zB (decide (k < zGl n u 0)))) ∧ ∃ B C D, w1 = zWd (zIf I 16 (nI (2 ^ n - 1))) (va_up (zMC A B C) 106 D) t ∧ (k < zGl n u 0 → ∀ i, i < n → D i = nI (zLi n u k i))) := by
  have h8 := H.2.1.1
  have h28 := z28 h8
  have hp := Nat.one_le_two_pow (n := n)
  refine eX12_laysLine _ _ _ (bX12_laysLine_0 _ _ _ ⟨ob_98.is, zcV (m_laysLines H) (by decide) ?_⟩)
  rintro w1 ⟨B, C, rfl, hL⟩
  have g31 := zGl_31 (u := u) h8 (Nat.two_pow_pos n)
  refine ⟨_, fr_98_14.rd, _, fi_98_16.rd, ?_⟩
  rw [hL.1]
  refine ⟨_, (ar_104.rd (by omega)).trans (by rw [(hL.2 _ (by omega)).1, zFG h8]), ?_⟩
  rw [zi_lt hk (by omega)]
  by_cases hkt : k < zGl n u 0
  · rw [if_pos hkt, decide_eq_true hkt]
    generalize hI : zIf I 16 (nI (2 ^ n - 1)) = I1 at *
    have main : ∀ i, i ≤ n → ∀ D : Nat → Int32, (∀ j, j < i → D j = nI (zLi n u k j)) → zRn X 3 0 0 MX12_laysLine 28 [some (.ref 98), some (.int (nI s)), none, some (.int (nI (zLst n u k i).2)), some (.int (nI (zLst n u k i).1)), some (.int (nI i)), none, none, none, none] [] (zWd I1 (va_up (zMC A B C) 106 D) t) (fun v w1 => v = some (.int (zB true)) ∧ ∃ B C D, w1 = zWd I1 (va_up (zMC A B C) 106 D) t ∧ (k < zGl n u 0 → ∀ i, i < n → D i = nI (zLi n u k i))) := by
      refine zdown ?_ ?_
      · intro D hD
        have HD := (zMC_H H B C).up (p := 106) (f := D) (by decide)
        refine bX12_laysLine_28 _ _ _ _ _ (zvRd ob_98 (m_many HD) (by decide) ?_)
        rw [if_pos (Int32.le_refl _)]
        exact ⟨rfl, B, C, D, rfl, fun _ => hD⟩
      · intro i hi ih D hD
        have HD := (zMC_H H B C).up (p := 106) (f := D) (by decide)
        obtain ⟨s1, s2, s3, s4⟩ := zLst_ok H.2.1 hkt i (by omega)
        obtain ⟨g1, g2, g3, g4⟩ := zLi_ok H.2.1 hkt hi
        have l31 := zGl_31 (u := u) h8 s1
        refine bX12_laysLine_28 _ _ _ _ _ (zvRd ob_98 (m_many HD) (by decide) ?_)
        rw [zi_le (by omega) (by omega), if_neg (by omega)]
        have step : ∀ (j l : Nat) (Q : Option Value → zW → Prop), j < n → l < 2 ^ 31 → (l < zWG n u (zLst n u k i).1 j → zRn X 3 0 0 MX12_laysLine 44 [some (.ref 98), some (.int (nI s)), none, some (.int (nI l)), some (.int (nI (zLst n u k i).1)), some (.int (nI i)), some (.int (nI j)), some (.int 1), none, none] [] (zWd I1 (va_up (zMC A B C) 106 D) t) Q) → (zWG n u (zLst n u k i).1 j ≤ l → zRn X 3 0 0 MX12_laysLine 44 [some (.ref 98), some (.int (nI s)), none, some (.int (nI (l - zWG n u (zLst n u k i).1 j))), some (.int (nI (zLst n u k i).1)), some (.int (nI i)), some (.int (nI (j + 1))), some (.int 0), none, none] [] (zWd I1 (va_up (zMC A B C) 106 D) t) Q) → zRn X 3 0 0 MX12_laysLine 44 [some (.ref 98), some (.int (nI s)), none, some (.int (nI l)), some (.int (nI (zLst n u k i).1)), some (.int (nI i)), some (.int (nI j)), some (.int 0), none, none] [] (zWd I1 (va_up (zMC A B C) 106 D) t) Q := by
          intro j l Q hj hl k1 k2
          have w31 := zWG_31 (u := u) h8 (a := j) s1
          refine bX12_laysLine_44 _ _ _ _ _ _ _ ?_
          rw [if_pos rfl]
          have go : zRn X 3 0 0 MX12_laysLine 102 [some (.ref 98), some (.int (nI s)), none, some (.int (nI l)), some (.int (nI (zLst n u k i).1)), some (.int (nI i)), some (.int (nI j)), none, none, none] [.int (nI (zWG n u (zLst n u k i).1 j))] (zWd I1 (va_up (zMC A B C) 106 D) t) Q := by
            refine bX12_laysLine_102 _ _ _ _ _ _ _ ?_
            rw [zi_le (by omega) hl]
            by_cases hle : zWG n u (zLst n u k i).1 j ≤ l
            · rw [if_pos hle]
              refine bX12_laysLine_115 _ _ _ _ _ _ _ _ ?_
              rw [if_pos rfl]
              refine bX12_laysLine_130 _ _ _ _ _ _ _ ?_
              rw [pk_sub hle, nI_1]
              exact k2 hle
            · rw [if_neg hle]
              refine bX12_laysLine_115 _ _ _ _ _ _ _ _ ?_
              rw [if_neg (by decide)]
              exact bX12_laysLine_130 _ _ _ _ _ _ _ (k1 (by omega))
          have no : zWG n u (zLst n u k i).1 j = 0 → zRn X 3 0 0 MX12_laysLine 78 [some (.ref 98), some (.int (nI s)), none, some (.int (nI l)), some (.int (nI (zLst n u k i).1)), some (.int (nI i)), some (.int (nI j)), none, none, none] [] (zWd I1 (va_up (zMC A B C) 106 D) t) Q := by
            intro e
            rw [e] at go
            refine bX12_laysLine_78 _ _ _ _ _ _ (bX12_laysLine_79 _ _ _ _ _ _ _ ?_)
            rw [if_pos rfl]
            exact go
          refine zcRd (m_has (by omega) (by omega)) (by decide) ?_
          rw [zB_if]
          by_cases hb : (zLst n u k i).1.testBit j = true
          · rw [if_pos hb]
            refine no ?_
            unfold zWG zcf
            rw [hb]
            simp
          · rw [if_neg hb]
            refine zvRd ob_98 (m_under HD (by omega)) (by decide) ?_
            have hz : zdf (u j) (zLst n u k i).1 < 2 ^ 8 := zdf_lt (H.2.1.u31 _)
            rw [zb_df, zi_0 (by omega)]
            by_cases h0 : zdf (u j) (zLst n u k i).1 = 0
            · rw [if_pos h0]
              have hc : zcf n u (zLst n u k i).1 j = true := by
                unfold zcf
                simp [hj, hb, h0]
              refine bX12_laysLine_79 _ _ _ _ _ _ _ ?_
              rw [if_neg (by decide)]
              have hlt := zor_lt s1 hj
              have e2 : zaI (zWd I1 (va_up (zMC A B C) 106 D) t) 105 (nI (zLst n u k i).1 ||| (1 : Int32) <<< (nI j &&& 31)) = some (nI (zWG n u (zLst n u k i).1 j)) := by
                rw [zb_1 j (by omega), zb_or]
                refine (ar_105.rd (by omega)).trans ?_
                rw [zup_ne (by decide), (hL.2 _ hlt).2]
                unfold zWG
                rw [if_pos hc]
              exact ⟨_, fr_98_15.rd, _, e2, go⟩
            · rw [if_neg h0]
              refine no ?_
              unfold zWG zcf
              simp [h0]
        have inner : ∀ j, j ≤ zLi n u k i → zRn X 3 0 0 MX12_laysLine 44 [some (.ref 98), some (.int (nI s)), none, some (.int (nI ((zLst n u k i).2 - zsm j (zWG n u (zLst n u k i).1)))), some (.int (nI (zLst n u k i).1)), some (.int (nI i)), some (.int (nI j)), some (.int 0), none, none] [] (zWd I1 (va_up (zMC A B C) 106 D) t) (fun v w1 => v = some (.int (zB true)) ∧ ∃ B C D, w1 = zWd I1 (va_up (zMC A B C) 106 D) t ∧ (k < zGl n u 0 → ∀ i, i < n → D i = nI (zLi n u k i))) := by
          refine zdown ?_ ?_
          · rw [zsm_s] at g4
            have g5 := g3 _ (Nat.le_refl _)
            refine step _ _ _ g1 (by omega) (fun _ => ?_) (fun z => by omega)
            refine bX12_laysLine_44 _ _ _ _ _ _ _ ?_
            rw [if_neg (by decide)]
            refine ⟨_, fr_98_17.rd, _, ar_106.wr (by omega), ?_⟩
            rw [bx_uu, zup_eq, zb_1 _ (by omega), zb_or, nI_1]
            have ih' := ih (upd D i (nI (zLi n u k i))) (fun j hj => by
              unfold upd
              by_cases e : j = i
              · rw [if_pos e, e]
              · rw [if_neg e]
                exact hD j (by omega))
            rw [zLst_s] at ih'
            exact ih'
          · intro j hj ihj
            have gj := g3 (j + 1) (by omega)
            rw [zsm_s] at gj ihj
            refine step _ _ _ (by omega) (by omega) (fun z => by omega) (fun _ => ?_)
            rw [Nat.sub_sub]
            exact ihj
        have i0 := inner 0 (Nat.zero_le _)
        rw [zsm_z, Nat.sub_zero] at i0
        exact i0
    have m0 := main 0 (Nat.zero_le _) (zMC A B C 106) (fun j hj => absurd hj (Nat.not_lt_zero _))
    rw [zup_self] at m0
    exact m0
  · rw [if_neg hkt, decide_eq_false hkt]
    exact ⟨rfl, B, C, zMC A B C 106, by rw [zup_self], fun z => absurd z hkt⟩
end ZMr
