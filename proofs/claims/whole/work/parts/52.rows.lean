/-! ===== rows: places, jumps, unlike, ahead, realizers ===== -/
theorem zRw_pc {n : Nat} {f : Nat → Nat} (hn : n ≤ 8) (f1 : ∀ i, i < n → f i < n) (f2 : ∀ i j, i < n → j < n → f i = f j → i = j) : ∀ i, i ≤ n → zpc (zRw f i) = i
  | 0, _ => zpc0
  | i + 1, hi => by
    have h8 := z28 hn
    have ih := zRw_pc hn f1 f2 i (by omega)
    have hl := zRw_lt f1 i (by omega)
    have hf := f1 i (by omega)
    rw [zRw_s, (zpc_out _ (by omega) (f i) (by omega)).2 (zRw_new f2 (by omega)), ih]
theorem zRw_all {n : Nat} {f : Nat → Nat} (hn : n ≤ 8) (f1 : ∀ i, i < n → f i < n) (f2 : ∀ i j, i < n → j < n → f i = f j → i = j) {a : Nat} (ha : a < n) : ∃ i, i < n ∧ f i = a := by
  have h1 := zRw_pc hn f1 f2 n (Nat.le_refl _)
  cases hb : (zRw f n).testBit a
  · have := zpc_n hn (zRw_lt f1 n (Nat.le_refl _)) ha hb
    omega
  · exact (zRw_bit f a n).mp hb
/-- the place of a thing in a row -/
def zpl (n : Nat) (f : Nat → Nat) (a : Nat) : Nat := zfst (fun i => decide (f i = a)) n
theorem zpl_ok {n : Nat} {f : Nat → Nat} (hn : n ≤ 8) (f1 : ∀ i, i < n → f i < n) (f2 : ∀ i j, i < n → j < n → f i = f j → i = j) {a : Nat} (ha : a < n) : zpl n f a < n ∧ f (zpl n f a) = a ∧ ∀ j, j < zpl n f a → f j ≠ a := by
  obtain ⟨i, hi, e⟩ := zRw_all hn f1 f2 ha
  have h1 := zfst_lt (p := fun i => decide (f i = a)) hi (decide_eq_true e)
  have hlt : zpl n f a < n := by
    show zfst _ n < n
    omega
  have h2 := zfst_yes (fun i => decide (f i = a)) n hlt
  refine ⟨hlt, of_decide_eq_true h2, fun j hj => ?_⟩
  have := zfst_no (fun i => decide (f i = a)) n j hj
  exact of_decide_eq_false this
theorem zpl_f {n : Nat} {f : Nat → Nat} (hn : n ≤ 8) (f1 : ∀ i, i < n → f i < n) (f2 : ∀ i j, i < n → j < n → f i = f j → i = j) {i : Nat} (hi : i < n) : zpl n f (f i) = i := by
  obtain ⟨h1, h2, -⟩ := zpl_ok hn f1 f2 (f1 i hi)
  exact f2 _ _ h1 hi h2
theorem zloopAk {n k0 : Nat} {p : Nat → Bool} {R : Nat → Bool → Prop} (h0 : k0 ≤ n) (hp : ∀ a, a < k0 → p a = true) (hx : R n true) (hs : ∀ k, k < n → ∀ b, (p k = true → R (k + 1) b) → (p k = false → b = false) → R k b) : R k0 (zall n p) := by
  have key := zdown (P := fun k => (∀ a, a < k → p a = true) → R k (zall n p)) (n := n) (fun h => by
    have : zall n p = true := zall_iff.mpr h
    rw [this]
    exact hx) (fun k hk ih hp => hs k hk _ (fun h => ih (fun a ha => by
      rcases Nat.lt_or_ge a k with q | q
      · exact hp a q
      · have : a = k := by omega
        subst this
        exact h)) (fun h => zall_no hk h))
  exact key k0 h0 hp
/-- two rows are one -/
def zsr (n : Nat) (f g : Nat → Nat) : Bool := zall n (fun i => decide (f i = g i))
/-- all rows are unlike; all are lines -/
def zUl (n R : Nat) (h : Nat → Nat → Nat) : Bool := zall R (fun r => zall r (fun q => !zsr n (h r) (h q)))
def zAL (n : Nat) (u : Nat → Nat) (R : Nat) (h : Nat → Nat → Nat) : Bool := zall R (fun r => zIL n u (h r))
/-- jumps of a row -/
def zjm (n : Nat) (u : Nat → Nat) (f : Nat → Nat) : Nat := zsm n (fun i => if i = 0 then 0 else if zlt u (f (i - 1)) (f i) = true then 0 else 1)
/-- ahead of a thing in the first r rows -/
def zaB (n : Nat) (h : Nat → Nat → Nat) (a r b : Nat) : Bool := !decide (b = a) && zall r (fun r => decide (zpl n (h r) b < zpl n (h r) a))
def zah (n : Nat) (R : Nat) (h : Nat → Nat → Nat) (a : Nat) : Nat := zmk n (fun b => zaB n h a R b)
theorem zall_s (p : Nat → Bool) (n : Nat) : zall (n + 1) p = (zall n p && p n) := by
  rw [Bool.eq_iff_iff, Bool.and_eq_true, zall_iff, zall_iff]
  constructor
  · intro h
    exact ⟨fun a ha => h a (by omega), h n (by omega)⟩
  · rintro ⟨h1, h2⟩ a ha
    rcases Nat.lt_or_ge a n with q | q
    · exact h1 a q
    · have : a = n := by omega
      subst this
      exact h2
theorem zall_z (p : Nat → Bool) : zall 0 p = true := zall_iff.mpr (fun a ha => absurd ha (Nat.not_lt_zero _))
theorem zaB_s (n : Nat) (h : Nat → Nat → Nat) (a r b : Nat) : zaB n h a (r + 1) b = (zaB n h a r b && decide (zpl n (h r) b < zpl n (h r) a)) := by
  unfold zaB
  rw [zall_s, Bool.and_assoc]
theorem zaB_0 {n : Nat} (h : Nat → Nat → Nat) {a : Nat} (ha : a < n) : zmk n (fun b => zaB n h a 0 b) = zdf (2 ^ n - 1) (2 ^ a) := zext (fun i => by
  rw [zmk_bit, zdf_bit, Nat.testBit_two_pow_sub_one, Nat.testBit_two_pow]
  unfold zaB
  rw [zall_z, Bool.and_true, show decide (a = i) = decide (i = a) by simp [eq_comm]])
section ZRw
variable {X : zX} {I A : zF2} {t : zW} {q n R : Nat} {u : Nat → Nat} {h : Nat → Nat → Nat}
theorem v_placeOf (hq : zOq q) (H : zRR I A q n R h) (hn : n ≤ 8) {r a : Nat} (hr : r < R) (ha : a < n) : zRd X 2 MX8_placeOf [.ref (q + 3), .int (nI r), .int (nI a), .int (nI n)] (zWd I A t) (nI (zpl n (h r) a)) := by
  obtain ⟨f1, f2⟩ := H.1.f hr
  obtain ⟨h1, h2, h3⟩ := zpl_ok hn f1 f2 ha
  refine eX8_placeOf _ _ _ _ (bX8_placeOf_0 _ _ _ _ ?_)
  refine zdown (P := fun i => zRn X 2 0 0 MX8_placeOf 3 [some (.ref (q + 3)), some (.int (nI r)), some (.int (nI a)), some (.int (nI n)), some (.int (nI i))] [] (zWd I A t) _) (n := zpl n (h r) a) ?_ (fun i hi ih => ?_) 0 (Nat.zero_le _)
  · refine bX8_placeOf_3 _ _ _ _ _ ?_
    rw [zi_le (by omega) (by omega), if_neg (by omega)]
    refine zvRd hq.rob (v_rthing hq H hn hr h1) (by decide) ?_
    rw [h2, if_pos rfl]
    exact ⟨rfl, rfl⟩
  · refine bX8_placeOf_3 _ _ _ _ _ ?_
    rw [zi_le (by omega) (by omega), if_neg (by omega)]
    refine zvRd hq.rob (v_rthing hq H hn hr (by omega)) (by decide) ?_
    have := f1 i (by omega)
    rw [zi_eq (by omega) (by omega), if_neg (h3 i hi), nI_1]
    exact ih
theorem v_comesAhead (hq : zOq q) (H : zRR I A q n R h) (hn : n ≤ 8) {r a b : Nat} (hr : r < R) (ha : a < n) (hb : b < n) : zRd X 3 MX8_comesAhead [.ref (q + 3), .int (nI r), .int (nI a), .int (nI b), .int (nI n)] (zWd I A t) (zB (decide (zpl n (h r) a < zpl n (h r) b))) := by
  obtain ⟨f1, f2⟩ := H.1.f hr
  have l1 := (zpl_ok hn f1 f2 ha).1
  have l2 := (zpl_ok hn f1 f2 hb).1
  refine eX8_comesAhead _ _ _ _ _ (bX8_comesAhead_0 _ _ _ _ _ (zvRd hq.rob (v_placeOf hq H hn hr ha) (by decide) (zvRd hq.rob (v_placeOf hq H hn hr hb) (by decide) ?_)))
  rw [zi_le (by omega) (by omega)]
  by_cases c : zpl n (h r) b ≤ zpl n (h r) a
  · rw [if_pos c, decide_eq_false (by omega)]
    exact ⟨rfl, rfl⟩
  · rw [if_neg c, decide_eq_true (by omega)]
    exact ⟨rfl, rfl⟩
theorem v_sameRow {q2 R2 : Nat} {h2 : Nat → Nat → Nat} (hq : zOq q) (H : zRR I A q n R h) (hq2 : zOq q2) (H2 : zRR I A q2 n R2 h2) (hn : n ≤ 8) {r r2 : Nat} (hr : r < R) (hr2 : r2 < R2) : zRd X 2 MX8_sameRow [.ref (q + 3), .int (nI r), .ref (q2 + 3), .int (nI r2), .int (nI n)] (zWd I A t) (zB (zsr n (h r) (h2 r2))) := by
  obtain ⟨f1, -⟩ := H.1.f hr
  obtain ⟨g1, -⟩ := H2.1.f hr2
  refine eX8_sameRow _ _ _ _ _ (bX8_sameRow_0 _ _ _ _ _ ?_)
  refine zloopA (R := fun i b => zRn X 2 0 0 MX8_sameRow 3 [some (.ref (q + 3)), some (.int (nI r)), some (.ref (q2 + 3)), some (.int (nI r2)), some (.int (nI n)), some (.int (nI i))] [] (zWd I A t) (fun v w1 => v = some (.int (zB b)) ∧ w1 = zWd I A t)) ?_ (fun i hi b e1 e2 => ?_)
  · refine bX8_sameRow_3 _ _ _ _ _ _ ?_
    rw [if_pos (Int32.le_refl _)]
    exact ⟨rfl, rfl⟩
  · refine bX8_sameRow_3 _ _ _ _ _ _ ?_
    have := f1 i hi
    have := g1 i hi
    rw [zi_le (by omega) (by omega), if_neg (by omega)]
    refine zvRd hq.rob (v_rthing hq H hn hr hi) (by decide) (zvRd hq2.rob (v_rthing hq2 H2 hn hr2 hi) (by decide) ?_)
    rw [zi_eq (by omega) (by omega)]
    by_cases c : h r i = h2 r2 i
    · rw [if_pos c, nI_1]
      exact e1 (decide_eq_true c)
    · rw [if_neg c, e2 (decide_eq_false c)]
      exact ⟨rfl, rfl⟩
theorem v_allUnlike (hq : zOq q) (H : zRR I A q n R h) (hn : n ≤ 8) : zRd X 3 MX8_allUnlike [.ref (q + 3), .int (nI n)] (zWd I A t) (zB (zUl n R h)) := by
  have h6 := H.1.1
  refine eX8_allUnlike _ _ (bX8_allUnlike_0 _ _ ?_)
  rcases Nat.eq_zero_or_pos R with e | e
  · subst e
    refine bX8_allUnlike_2 _ _ _ ⟨_, hq.rsz.rd, ?_⟩
    rw [H.2.1, if_pos (by decide)]
    exact ⟨rfl, rfl⟩
  · refine zloopAk (k0 := 1) (R := fun r b => zRn X 3 0 0 MX8_allUnlike 2 [some (.ref (q + 3)), some (.int (nI n)), some (.int (nI r)), none] [] (zWd I A t) (fun v w1 => v = some (.int (zB b)) ∧ w1 = zWd I A t)) e (fun a ha => ?_) ?_ (fun r hr b e1 e2 => ?_)
    · have : a = 0 := by omega
      subst this
      exact zall_z _
    · refine bX8_allUnlike_2 _ _ _ ⟨_, hq.rsz.rd, ?_⟩
      rw [H.2.1, if_pos (Int32.le_refl _)]
      exact ⟨rfl, rfl⟩
    · refine bX8_allUnlike_2 _ _ _ ⟨_, hq.rsz.rd, ?_⟩
      rw [H.2.1, zi_le (by omega) (by omega), if_neg (by omega)]
      generalize hp : (fun q => !zsr n (h r) (h q)) = p at *
      have inner := zloopA (n := r) (p := p) (R := fun k c => ((c = true → zRn X 3 0 0 MX8_allUnlike 2 [some (.ref (q + 3)), some (.int (nI n)), some (.int (nI (r + 1))), none] [] (zWd I A t) (fun v w1 => v = some (.int (zB b)) ∧ w1 = zWd I A t)) → (c = false → b = false) → zRn X 3 0 0 MX8_allUnlike 12 [some (.ref (q + 3)), some (.int (nI n)), some (.int (nI r)), some (.int (nI k))] [] (zWd I A t) (fun v w1 => v = some (.int (zB b)) ∧ w1 = zWd I A t))) (fun g1 g2 => by
        refine bX8_allUnlike_12 _ _ _ _ ?_
        rw [if_pos (Int32.le_refl _), nI_1]
        exact g1 rfl) (fun k hk c c1 c2 g1 g2 => by
        refine bX8_allUnlike_12 _ _ _ _ ?_
        rw [zi_le (by omega) (by omega), if_neg (by omega)]
        refine zvRd hq.rob (v_sameRow hq H hq H hn hr (by omega)) (by decide) ?_
        rw [zB_if]
        by_cases d : zsr n (h r) (h k) = true
        · rw [if_pos d, g2 (c2 (by rw [← hp]; simp [d]))]
          exact ⟨rfl, rfl⟩
        · rw [if_neg d, nI_1]
          rw [Bool.not_eq_true] at d
          exact c1 (by rw [← hp]; simp [d]) g1 g2)
      exact inner e1 e2
theorem v_jumpsIn (h0 : zOR I A q n u) (H : zRR I A q n R h) {r : Nat} (hr : r < R) (hn : 0 < n) : zRd X 3 MX5_jumpsIn [.ref q, .int (nI r)] (zWd I A t) (nI (zjm n u (h r))) := by
  have h8 := h0.n8
  obtain ⟨f1, -⟩ := H.1.f hr
  refine eX5_jumpsIn _ _ (bX5_jumpsIn_0 _ _ ?_)
  have key := zdown (P := fun i => 1 ≤ i → zRn X 3 0 0 MX5_jumpsIn 4 [some (.ref q), some (.int (nI r)), some (.int (nI (zsm i (fun i => if i = 0 then 0 else if zlt u (h r (i - 1)) (h r i) = true then 0 else 1)))), some (.int (nI i))] [] (zWd I A t) (fun v w1 => v = some (.int (nI (zjm n u (h r)))) ∧ w1 = zWd I A t)) (n := n) (fun _ => by
    refine bX5_jumpsIn_4 _ _ _ _ ⟨_, h0.sz, ?_⟩
    rw [if_pos (Int32.le_refl _)]
    exact ⟨rfl, rfl⟩) (fun i hi ih h1 => by
    have ih := ih (by omega)
    rw [zsm_s, if_neg (by omega)] at ih
    have g1 := f1 i hi
    have g2 := f1 (i - 1) (by omega)
    refine bX5_jumpsIn_4 _ _ _ _ ⟨_, h0.sz, ?_⟩
    rw [zi_le (by omega) (by omega), if_neg (by omega)]
    have e1 : nI i - 1 = nI (i - 1) := pk_sub h1
    rw [e1]
    refine ⟨_, h0.1.rw.rd, zvRd h0.1.rob (v_rthing h0.1 H h8 hr (by omega)) (by decide) ⟨_, h0.1.rw.rd, zvRd h0.1.rob (v_rthing h0.1 H h8 hr hi) (by decide) (zvRd h0.1.ob (v_under h0 (by omega) (by omega)) (by decide) ?_)⟩⟩
    rw [zB_if]
    by_cases c : zlt u (h r (i - 1)) (h r i) = true
    · rw [if_pos c]
      rw [if_pos c, Nat.add_zero] at ih
      refine bX5_jumpsIn_42 _ _ _ _ ?_
      rw [nI_1]
      exact ih
    · rw [if_neg c]
      rw [if_neg c] at ih
      refine bX5_jumpsIn_42 _ _ _ _ ?_
      rw [nI_1, nI_1]
      exact ih) 1 hn (Nat.le_refl _)
  rw [zsm_s, zsm_z, if_pos rfl] at key
  exact key
theorem v_allRowsAreLines (h0 : zOR I A q n u) (H : zRR I A q n R h) : zRd X 2 MX5_allRowsAreLines [.ref q] (zWd I A t) (zB (zAL n u R h)) := by
  have h8 := h0.n8
  have h28 := z28 h8
  have h6 := H.1.1
  have hz := v_rsize (X := X) (I := I) (A := A) (t := t) h0.1
  rw [H.2.1] at hz
  refine eX5_allRowsAreLines _ (bX5_allRowsAreLines_0 _ ?_)
  refine zloopA (R := fun r b => zRn X 2 0 0 MX5_allRowsAreLines 2 [some (.ref q), some (.int (nI r)), none, none, none] [] (zWd I A t) (fun v w1 => v = some (.int (zB b)) ∧ w1 = zWd I A t)) ?_ (fun r hr b e1 e2 => ?_)
  · refine bX5_allRowsAreLines_2 _ _ ⟨_, h0.1.rw.rd, zvRd h0.1.rob hz (by decide) ?_⟩
    rw [if_pos (Int32.le_refl _)]
    exact ⟨rfl, rfl⟩
  · obtain ⟨f1, f2⟩ := H.1.f hr
    refine bX5_allRowsAreLines_2 _ _ ⟨_, h0.1.rw.rd, zvRd h0.1.rob hz (by decide) ?_⟩
    rw [zi_le (by omega) (by omega), if_neg (by omega)]
    have inner := zloopA (n := n) (p := fun i => decide (zdf (u (h r i)) (zRw (h r) i) = 0)) (R := fun i c => ((c = true → zRn X 2 0 0 MX5_allRowsAreLines 2 [some (.ref q), some (.int (nI (r + 1))), none, none, none] [] (zWd I A t) (fun v w1 => v = some (.int (zB b)) ∧ w1 = zWd I A t)) → (c = false → b = false) → zRn X 2 0 0 MX5_allRowsAreLines 17 [some (.ref q), some (.int (nI r)), some (.int (nI (zRw (h r) i))), some (.int (nI i)), none] [] (zWd I A t) (fun v w1 => v = some (.int (zB b)) ∧ w1 = zWd I A t))) (fun g1 g2 => by
      refine bX5_allRowsAreLines_17 _ _ _ _ ⟨_, h0.sz, ?_⟩
      rw [if_pos (Int32.le_refl _), nI_1]
      exact g1 rfl) (fun i hi c c1 c2 g1 g2 => by
      have hlt := zRw_lt f1 i (by omega)
      have hfi := f1 i hi
      refine bX5_allRowsAreLines_17 _ _ _ _ ⟨_, h0.sz, ?_⟩
      rw [zi_le (by omega) (by omega), if_neg (by omega)]
      refine ⟨_, h0.1.rw.rd, zvRd h0.1.rob (v_rthing h0.1 H h8 hr hi) (by decide) (zvRd h0.1.ob (v_canFollow h0 (by omega) (by omega)) (by decide) ?_)⟩
      have ec : zcf n u (zRw (h r) i) (h r i) = decide (zdf (u (h r i)) (zRw (h r) i) = 0) := by
        unfold zcf
        rw [zRw_new f2 hi]
        simp [hfi]
      rw [ec, zB_ifP]
      by_cases d : zdf (u (h r i)) (zRw (h r) i) = 0
      · rw [if_pos d, zb_1 _ (by omega), zb_or, nI_1]
        exact c1 (decide_eq_true d) g1 g2
      · rw [if_neg d, g2 (c2 (decide_eq_false d))]
        exact ⟨rfl, rfl⟩)
    exact inner e1 e2
theorem zahC_s (a r o : Nat) (ho : o < n) : zmk n (fun b => zaB n h a r b && (!decide (b < o + 1) || decide (zpl n (h r) b < zpl n (h r) a))) = if zpl n (h r) o < zpl n (h r) a then zmk n (fun b => zaB n h a r b && (!decide (b < o) || decide (zpl n (h r) b < zpl n (h r) a))) else zdf (zmk n (fun b => zaB n h a r b && (!decide (b < o) || decide (zpl n (h r) b < zpl n (h r) a)))) (2 ^ o) := by
  by_cases c : zpl n (h r) o < zpl n (h r) a
  · rw [if_pos c]
    refine zmk_cong (fun b hb => ?_)
    by_cases e : b = o
    · subst e
      simp [c]
    · have : decide (b < o + 1) = decide (b < o) := decide_eq_decide.mpr (by omega)
      rw [this]
  · rw [if_neg c]
    refine zext (fun b => ?_)
    rw [zdf_bit, zmk_bit, zmk_bit, Nat.testBit_two_pow]
    by_cases e : o = b
    · subst e
      simp [c, ho]
    · have : decide (b < o + 1) = decide (b < o) := decide_eq_decide.mpr (by omega)
      rw [this]
      simp [e]
theorem v_alwaysAheadOf (h0 : zOR I A q n u) (H : zRR I A q n R h) {a : Nat} (ha : a < n) : zRd X 4 MX5_alwaysAheadOf [.ref q, .int (nI a)] (zWd I A t) (nI (zah n R h a)) := by
  have h8 := h0.n8
  have h28 := z28 h8
  have h6 := H.1.1
  have hz := v_rsize (X := X) (I := I) (A := A) (t := t) h0.1
  rw [H.2.1] at hz
  refine eX5_alwaysAheadOf _ _ (bX5_alwaysAheadOf_0 _ _ (zvRd h0.1.ob (v_all h0) (by decide) ?_))
  rw [zb_1 a (by omega), zb_df, ← zaB_0 h ha]
  refine zdown (P := fun r => zRn X 4 0 0 MX5_alwaysAheadOf 13 [some (.ref q), some (.int (nI a)), some (.int (nI (zmk n (fun b => zaB n h a r b)))), some (.int (nI r)), none] [] (zWd I A t) _) (n := R) ?_ (fun r hr ih => ?_) 0 (Nat.zero_le _)
  · refine bX5_alwaysAheadOf_13 _ _ _ _ ⟨_, h0.1.rw.rd, zvRd h0.1.rob hz (by decide) ?_⟩
    rw [if_pos (Int32.le_refl _)]
    exact ⟨rfl, rfl⟩
  · refine bX5_alwaysAheadOf_13 _ _ _ _ ⟨_, h0.1.rw.rd, zvRd h0.1.rob hz (by decide) ?_⟩
    rw [zi_le (by omega) (by omega), if_neg (by omega)]
    have inner : ∀ o, o ≤ n → zRn X 4 0 0 MX5_alwaysAheadOf 27 [some (.ref q), some (.int (nI a)), some (.int (nI (zmk n (fun b => zaB n h a r b && (!decide (b < o) || decide (zpl n (h r) b < zpl n (h r) a)))))), some (.int (nI r)), some (.int (nI o))] [] (zWd I A t) (fun v w1 => v = some (.int (nI (zah n R h a))) ∧ w1 = zWd I A t) := by
      refine zdown ?_ ?_
      · refine bX5_alwaysAheadOf_27 _ _ _ _ _ ⟨_, h0.sz, ?_⟩
        rw [if_pos (Int32.le_refl _), nI_1]
        have e : zmk n (fun b => zaB n h a r b && (!decide (b < n) || decide (zpl n (h r) b < zpl n (h r) a))) = zmk n (fun b => zaB n h a (r + 1) b) := zmk_cong (fun b hb => by
          rw [zaB_s]
          simp [hb])
        rw [e]
        exact ih
      · intro o ho iho
        refine bX5_alwaysAheadOf_27 _ _ _ _ _ ⟨_, h0.sz, ?_⟩
        rw [zi_le (by omega) (by omega), if_neg (by omega)]
        refine ⟨_, h0.1.rw.rd, _, h0.sz, zvRd h0.1.rob (v_comesAhead h0.1 H h8 hr ho ha) (by decide) ?_⟩
        rw [zahC_s a r o ho] at iho
        rw [zB_ifP]
        by_cases c : zpl n (h r) o < zpl n (h r) a
        · rw [if_pos c]
          rw [if_pos c] at iho
          refine bX5_alwaysAheadOf_63 _ _ _ _ _ ?_
          rw [nI_1]
          exact iho
        · rw [if_neg c]
          rw [if_neg c] at iho
          refine bX5_alwaysAheadOf_63 _ _ _ _ _ ?_
          rw [zb_1 o (by omega), zb_df, nI_1]
          exact iho
    have i0 := inner 0 (Nat.zero_le _)
    have e : zmk n (fun b => zaB n h a r b && (!decide (b < 0) || decide (zpl n (h r) b < zpl n (h r) a))) = zmk n (fun b => zaB n h a r b) := zmk_cong (fun b hb => by simp)
    rw [e] at i0
    exact i0
theorem zah_lt (a : Nat) : zah n R h a < 2 ^ n := zmk_lt _ _
theorem zIL_pl {f : Nat → Nat} (hn : n ≤ 8) (f1 : ∀ i, i < n → f i < n) (f2 : ∀ i j, i < n → j < n → f i = f j → i = j) (hL : zIL n u f = true) {a b : Nat} (ha : a < n) (hb : b < n) (hab : zlt u a b = true) : zpl n f a < zpl n f b := by
  obtain ⟨g1, g2, -⟩ := zpl_ok hn f1 f2 hb
  have := of_decide_eq_true (zall_iff.mp hL _ g1)
  rw [g2] at this
  have h1 := zdf0.mp this a hab
  obtain ⟨j, hj, e⟩ := (zRw_bit f a _).mp h1
  have h2 := zpl_f hn f1 f2 (show j < n by omega)
  rw [e] at h2
  omega
/-- what ROWS are: a realizer -/
def zRz (n : Nat) (u : Nat → Nat) (R : Nat) (h : Nat → Nat → Nat) : Bool := decide (0 < R) && zAL n u R h && zall n (fun a => decide (zah n R h a &&& zfr n u a = 0))
theorem zRz_eq (h0 : zPo n u) (H : zHo n R h) (hR : 0 < R) (hA : zAL n u R h = true) {a : Nat} (ha : a < n) : (zah n R h a &&& zfr n u a = 0) ↔ zah n R h a = u a := by
  have bit : ∀ b, (zah n R h a).testBit b = (decide (b < n) && zaB n h a R b) := fun b => zmk_bit _ b n
  have pl : ∀ r, r < R → ∀ x y, x < n → y < n → zlt u x y = true → zpl n (h r) x < zpl n (h r) y := fun r hr x y hx hy hxy => by
    obtain ⟨f1, f2⟩ := H.f hr
    exact zIL_pl h0.1 f1 f2 (zall_iff.mp hA r hr) hx hy hxy
  have down : ∀ b, zlt u b a = true → (zah n R h a).testBit b = true := fun b hb => by
    have hbn := (h0.lt hb).1
    rw [bit]
    unfold zaB
    have hne : ¬ b = a := fun e => by
      rw [e, h0.2.2.2.1 a] at hb
      cases hb
    have : zall R (fun r => decide (zpl n (h r) b < zpl n (h r) a)) = true := zall_iff.mpr (fun r hr => decide_eq_true (pl r hr b a hbn ha hb))
    simp [hbn, hne, this]
  have noup : ∀ b, zlt u a b = true → (zah n R h a).testBit b = false := fun b hb => by
    have hbn := (h0.lt hb).2
    have := pl 0 hR a b ha hbn hb
    rw [bit]
    unfold zaB
    have : zall R (fun r => decide (zpl n (h r) b < zpl n (h r) a)) = false := zall_no hR (decide_eq_false (by omega))
    rw [this]
    simp
  have noself : (zah n R h a).testBit a = false := by
    rw [bit]
    unfold zaB
    simp
  constructor
  · intro e
    refine zext (fun b => ?_)
    cases hb : (zah n R h a).testBit b
    · cases hc : (u a).testBit b
      · rfl
      · have := down b hc
        rw [hb] at this
        cases this
    · have hbn : b < n := by
        rw [bit, Bool.and_eq_true, decide_eq_true_eq] at hb
        exact hb.1
      have h1 := zeq0.mp e b
      rw [Nat.testBit_and, hb, Bool.true_and, zfr_fe h0 ha hbn] at h1
      unfold zfe at h1
      have c1 : zlt u a b = false := by
        cases hc : zlt u a b
        · rfl
        · rw [noup b hc] at hb
          cases hb
      have c2 : ¬ a = b := fun z => by
        rw [← z, noself] at hb
        cases hb
      rw [c1] at h1
      have h2 : zlt u b a = true := by simpa [c2] using h1
      exact h2.symm
  · intro e
    rw [e, zeq0]
    intro b
    rw [Nat.testBit_and]
    cases hb : (u a).testBit b
    · rfl
    · have hbn := (h0.lt (a := b) (b := a) hb).1
      rw [zfr_fe h0 ha hbn]
      unfold zfe
      have : zlt u b a = true := hb
      simp [this]
theorem v_rowsRealize (h0 : zOR I A q n u) (H : zRR I A q n R h) : zRd X 5 MX5_rowsRealize [.ref q] (zWd I A t) (zB (zRz n u R h)) := by
  have h8 := h0.n8
  have h28 := z28 h8
  have h6 := H.1.1
  have hz := v_rsize (X := X) (I := I) (A := A) (t := t) h0.1
  rw [H.2.1] at hz
  refine eX5_rowsRealize _ (bX5_rowsRealize_0 _ ⟨_, h0.1.rw.rd, zvRd h0.1.rob hz (by decide) ?_⟩)
  rw [zi_0 (by omega)]
  unfold zRz
  by_cases hR : R = 0
  · rw [if_pos hR, decide_eq_false (by omega)]
    exact ⟨rfl, rfl⟩
  · rw [if_neg hR, decide_eq_true (by omega), Bool.true_and]
    refine zvRd h0.1.ob (v_allRowsAreLines h0 H) (by decide) ?_
    rw [zB_if]
    by_cases hA : zAL n u R h = true
    · rw [if_pos hA, hA, Bool.true_and]
      refine zloopA (R := fun a b => zRn X 5 0 0 MX5_rowsRealize 21 [some (.ref q), some (.int (nI a))] [] (zWd I A t) (fun v w1 => v = some (.int (zB b)) ∧ w1 = zWd I A t)) ?_ (fun a ha b e1 e2 => ?_)
      · refine bX5_rowsRealize_21 _ _ ⟨_, h0.sz, ?_⟩
        rw [if_pos (Int32.le_refl _)]
        exact ⟨rfl, rfl⟩
      · refine bX5_rowsRealize_21 _ _ ⟨_, h0.sz, ?_⟩
        rw [zi_le (by omega) (by omega), if_neg (by omega)]
        have l1 := zah_lt (n := n) (R := R) (h := h) a
        have l2 : zah n R h a &&& zfr n u a ≤ zah n R h a := Nat.and_le_left
        refine zvRd h0.1.ob (v_alwaysAheadOf h0 H ha) (by decide) (zvRd h0.1.ob (v_freeOf h0 ha) (by decide) ?_)
        rw [zb_and, zi_0 (by omega)]
        by_cases c : zah n R h a &&& zfr n u a = 0
        · rw [if_pos c, nI_1]
          exact e1 (decide_eq_true c)
        · rw [if_neg c, e2 (decide_eq_false c)]
          exact ⟨rfl, rfl⟩
    · rw [if_neg hA]
      rw [Bool.not_eq_true] at hA
      rw [hA]
      exact ⟨rfl, rfl⟩
end ZRw
