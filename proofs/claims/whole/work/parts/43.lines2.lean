/-! ===== Lines: what is read off the tables ===== -/
def zWy (n : Nat) (u : Nat → Nat) (s a : Nat) : Nat := if zcf n u s a = true then zGc n u (s ||| 2 ^ a) else 0
def zWG (n : Nat) (u : Nat → Nat) (s a : Nat) : Nat := if zcf n u s a = true then zGl n u (s ||| 2 ^ a) else 0
theorem zGc_id {n : Nat} {u : Nat → Nat} (h : zPo n u) {s : Nat} (hs : s < 2 ^ n) (hid : zid n u s = true) : zGc n u s = zGl n u s := by
  have := (zFl_pos h hs).mpr hid
  unfold zGc
  rw [if_neg (by omega)]
theorem zWy_id {n : Nat} {u : Nat → Nat} (h : zPo n u) {s a : Nat} (hs : s < 2 ^ n) (hid : zid n u s = true) : zWy n u s a = zWG n u s a := by
  unfold zWy zWG
  by_cases hc : zcf n u s a = true
  · rw [if_pos hc, if_pos hc, zGc_id h (zor_lt hs (zcf_s hc).1) (zcf_id hid hc)]
  · rw [if_neg hc, if_neg hc]
theorem zFW {n : Nat} {u : Nat → Nat} (h : zPo n u) {s a : Nat} (hs : s < 2 ^ n) : zFl n u s * zWy n u s a = if zcf n u s a = true ∧ zid n u s = true then zFl n u s * zGl n u (s ||| 2 ^ a) else 0 := by
  by_cases hid : zid n u s = true
  · rw [zWy_id h hs hid]
    unfold zWG
    by_cases hc : zcf n u s a = true
    · rw [if_pos hc, if_pos ⟨hc, hid⟩]
    · rw [if_neg hc, if_neg (fun z => hc z.1), Nat.mul_zero]
  · have : zFl n u s = 0 := by
      rcases Nat.eq_zero_or_pos (zFl n u s) with q | q
      · exact q
      · exact absurd ((zFl_pos h hs).mp q) hid
    rw [this, if_neg (fun z => hid z.2), Nat.zero_mul]
theorem zcf_full {n : Nat} {u : Nat → Nat} {a : Nat} : zcf n u (2 ^ n - 1) a = false := by
  cases hc : zcf n u (2 ^ n - 1) a
  · rfl
  · obtain ⟨h1, h2, -⟩ := zcf_s hc
    rw [Nat.testBit_two_pow_sub_one] at h2
    simp [h1] at h2
theorem zid_0 (n : Nat) (u : Nat → Nat) : zid n u 0 = true := zid_iff.mpr (fun a _ hb => by simp at hb)
theorem zFl_0 {n : Nat} {u : Nat → Nat} (h : zPo n u) : 0 < zFl n u 0 := (zFl_pos h (Nat.two_pow_pos n)).mpr (zid_0 n u)
/-- lines in which a comes ahead of b; in which a is at place i -/
def zBf (n : Nat) (u : Nat → Nat) (a b : Nat) : Nat := zsm (2 ^ n) (fun s => if s.testBit a = true ∧ zcf n u s b = true ∧ zid n u s = true then zFl n u s * zGl n u (s ||| 2 ^ b) else 0)
def zAt (n : Nat) (u : Nat → Nat) (a i : Nat) : Nat := zsm (2 ^ n) (fun s => if zpc s = i ∧ zcf n u s a = true ∧ zid n u s = true then zFl n u s * zGl n u (s ||| 2 ^ a) else 0)
def zPS (n : Nat) (u : Nat → Nat) (a : Nat) : Nat := zsm n (fun i => i * zAt n u a i)
theorem zBf_eq {n : Nat} {u : Nat → Nat} (h : zPo n u) (a b : Nat) : zsm (2 ^ n - 1) (fun s => if s.testBit a = true then zFl n u s * zWy n u s b else 0) = zBf n u a b := by
  have hp := Nat.one_le_two_pow (n := n)
  unfold zBf
  have e : zsm (2 ^ n) (fun s => if s.testBit a = true ∧ zcf n u s b = true ∧ zid n u s = true then zFl n u s * zGl n u (s ||| 2 ^ b) else 0) = zsm (2 ^ n - 1 + 1) (fun s => if s.testBit a = true ∧ zcf n u s b = true ∧ zid n u s = true then zFl n u s * zGl n u (s ||| 2 ^ b) else 0) := by rw [Nat.sub_add_cancel hp]
  rw [e, zsm_s, if_neg (fun z => by rw [zcf_full] at z; exact absurd z.2.1 (by decide)), Nat.add_zero]
  refine zsm_cong (fun s hs => ?_)
  rw [zFW h (by omega)]
  by_cases h1 : s.testBit a = true
  · rw [if_pos h1]
    by_cases h2 : zcf n u s b = true ∧ zid n u s = true
    · rw [if_pos h2, if_pos ⟨h1, h2⟩]
    · rw [if_neg h2, if_neg (fun z => h2 z.2)]
  · rw [if_neg h1, if_neg (fun z => h1 z.1)]
theorem zAt_eq {n : Nat} {u : Nat → Nat} (h : zPo n u) (a i : Nat) : zsm (2 ^ n - 1) (fun s => if zpc s = i then zFl n u s * zWy n u s a else 0) = zAt n u a i := by
  have hp := Nat.one_le_two_pow (n := n)
  unfold zAt
  have e : zsm (2 ^ n) (fun s => if zpc s = i ∧ zcf n u s a = true ∧ zid n u s = true then zFl n u s * zGl n u (s ||| 2 ^ a) else 0) = zsm (2 ^ n - 1 + 1) (fun s => if zpc s = i ∧ zcf n u s a = true ∧ zid n u s = true then zFl n u s * zGl n u (s ||| 2 ^ a) else 0) := by rw [Nat.sub_add_cancel hp]
  rw [e, zsm_s, if_neg (fun z => by rw [zcf_full] at z; exact absurd z.2.1 (by decide)), Nat.add_zero]
  refine zsm_cong (fun s hs => ?_)
  rw [zFW h (by omega)]
  by_cases h1 : zpc s = i
  · rw [if_pos h1]
    by_cases h2 : zcf n u s a = true ∧ zid n u s = true
    · rw [if_pos h2, if_pos ⟨h1, h2⟩]
    · rw [if_neg h2, if_neg (fun z => h2 z.2)]
  · rw [if_neg h1, if_neg (fun z => h1 z.1)]
/-- the k-th line: which comes next behind s, when l lines are to be passed -/
def zLa (n : Nat) (u : Nat → Nat) (s l : Nat) : Nat := zfst (fun a => decide (l < zsm (a + 1) (zWG n u s))) n
def zLst (n : Nat) (u : Nat → Nat) (k : Nat) : Nat → Nat × Nat
  | 0 => (0, k)
  | i + 1 => ((zLst n u k i).1 ||| 2 ^ zLa n u (zLst n u k i).1 (zLst n u k i).2, (zLst n u k i).2 - zsm (zLa n u (zLst n u k i).1 (zLst n u k i).2) (zWG n u (zLst n u k i).1))
def zLi (n : Nat) (u : Nat → Nat) (k i : Nat) : Nat := zLa n u (zLst n u k i).1 (zLst n u k i).2
theorem zLst_s (n : Nat) (u : Nat → Nat) (k i : Nat) : zLst n u k (i + 1) = ((zLst n u k i).1 ||| 2 ^ zLi n u k i, (zLst n u k i).2 - zsm (zLi n u k i) (zWG n u (zLst n u k i).1)) := rfl
/-- one thing of a line -/
theorem zLa_ok {n : Nat} {u : Nat → Nat} (h : zPo n u) {s l : Nat} (hs : s < 2 ^ n) (hne : s ≠ 2 ^ n - 1) (hl : l < zGl n u s) : zLa n u s l < n ∧ zcf n u s (zLa n u s l) = true ∧ (∀ j, j ≤ zLa n u s l → zsm j (zWG n u s) ≤ l) ∧ l < zsm (zLa n u s l + 1) (zWG n u s) := by
  rw [zGl_eq h.1 hs, if_neg hne, Nat.zero_add] at hl
  have hn : 0 < n := by
    rcases Nat.eq_zero_or_pos n with q | q
    · subst q
      have : zsm 0 (fun a => if zcf 0 u s a = true then zGl 0 u (s ||| 2 ^ a) else 0) = 0 := zsm_z _
      omega
    · exact q
  have hl' : l < zsm n (zWG n u s) := hl
  have h1 := zfst_lt (p := fun a => decide (l < zsm (a + 1) (zWG n u s))) (n := n) (k := n - 1) (by omega) (by
    rw [decide_eq_true_eq, Nat.sub_add_cancel hn]
    exact hl')
  have hlt : zLa n u s l < n := by
    show zfst _ n < n
    omega
  have h2 := zfst_yes (fun a => decide (l < zsm (a + 1) (zWG n u s))) n hlt
  rw [decide_eq_true_eq] at h2
  have h2 : l < zsm (zLa n u s l + 1) (zWG n u s) := h2
  have h3 : ∀ j, j ≤ zLa n u s l → zsm j (zWG n u s) ≤ l := by
    intro j hj
    rcases Nat.eq_zero_or_pos j with q | q
    · subst q
      rw [zsm_z]
      omega
    · have := zfst_no (fun a => decide (l < zsm (a + 1) (zWG n u s))) n (j - 1) (by
        show j - 1 < zLa n u s l
        omega)
      rw [decide_eq_false_iff_not, Nat.sub_add_cancel q] at this
      omega
  refine ⟨hlt, ?_, h3, h2⟩
  rw [zsm_s] at h2
  have h4 := h3 _ (Nat.le_refl _)
  cases hc : zcf n u s (zLa n u s l)
  · unfold zWG at h2 h4
    rw [hc] at h2
    simp only [Bool.false_eq_true, if_false] at h2
    omega
  · rfl
theorem zpc0 : zpc 0 = 0 := by decide
theorem zLst_ok {n : Nat} {u : Nat → Nat} (h : zPo n u) {k : Nat} (hk : k < zGl n u 0) : ∀ i, i ≤ n → (zLst n u k i).1 < 2 ^ n ∧ zid n u (zLst n u k i).1 = true ∧ zpc (zLst n u k i).1 = i ∧ (zLst n u k i).2 < zGl n u (zLst n u k i).1 := by
  have h28 := z28 h.1
  have h8 := h.1
  intro i
  induction i with
  | zero =>
    intro _
    exact ⟨Nat.two_pow_pos n, zid_0 n u, zpc0, hk⟩
  | succ i ih =>
    intro hi
    obtain ⟨h1, h2, h3, h4⟩ := ih (by omega)
    have hne : (zLst n u k i).1 ≠ 2 ^ n - 1 := by
      intro e
      rw [e, zpc_full n h.1] at h3
      omega
    obtain ⟨g1, g2, g3, g4⟩ := zLa_ok h h1 hne h4
    have g2' : zcf n u (zLst n u k i).1 (zLi n u k i) = true := g2
    rw [zLst_s]
    refine ⟨zor_lt h1 g1, zcf_id h2 g2, ?_, ?_⟩
    · have := (zpc_out (zLst n u k i).1 (by omega) (zLi n u k i) (by have : zLi n u k i < n := g1; omega)).2 (zcf_s g2').2.1
      show zpc ((zLst n u k i).1 ||| 2 ^ zLi n u k i) = i + 1
      omega
    · rw [zsm_s] at g4
      have e : zWG n u (zLst n u k i).1 (zLa n u (zLst n u k i).1 (zLst n u k i).2) = zGl n u ((zLst n u k i).1 ||| 2 ^ zLi n u k i) := by
        unfold zWG
        rw [if_pos g2]
        rfl
      rw [e] at g4
      have := g3 _ (Nat.le_refl _)
      show (zLst n u k i).2 - zsm (zLa n u (zLst n u k i).1 (zLst n u k i).2) (zWG n u (zLst n u k i).1) < zGl n u ((zLst n u k i).1 ||| 2 ^ zLi n u k i)
      omega
theorem zLi_ok {n : Nat} {u : Nat → Nat} (h : zPo n u) {k : Nat} (hk : k < zGl n u 0) {i : Nat} (hi : i < n) : zLi n u k i < n ∧ zcf n u (zLst n u k i).1 (zLi n u k i) = true ∧ (∀ j, j ≤ zLi n u k i → zsm j (zWG n u (zLst n u k i).1) ≤ (zLst n u k i).2) ∧ (zLst n u k i).2 < zsm (zLi n u k i + 1) (zWG n u (zLst n u k i).1) := by
  obtain ⟨h1, h2, h3, h4⟩ := zLst_ok h hk i (by omega)
  exact zLa_ok h h1 (fun e => by rw [e, zpc_full n h.1] at h3; omega) h4
theorem zand255 {x : Nat} (h : x < 256) : x &&& 255 = x := by
  have := Nat.and_two_pow_sub_one_eq_mod x 8
  rw [show (2 : Nat) ^ 8 - 1 = 255 by decide, show (2 : Nat) ^ 8 = 256 by decide] at this
  rw [this]
  omega
theorem zWG_31 {n : Nat} {u : Nat → Nat} (hn : n ≤ 8) {s a : Nat} (hs : s < 2 ^ n) : zWG n u s a ≤ 16777216 := by
  unfold zWG
  split
  · rename_i hc
    exact zGl_31 hn (zor_lt hs (zcf_s hc).1)
  · omega
section ZLi
variable {X : zX} {I A : zF2} {t : zW} {q n : Nat} {u : Nat → Nat}
theorem v_total (h : zPo n u) (hL : zLn A n u) : zRd X 0 MX4_total [.ref 84] (zWd I A t) (nI (zGl n u 0)) := by
  refine eX4_total _ (bX4_total_0 _ ⟨_, fr_84_1.rd, _, (ar_86.rd (j := 0) (by decide)).trans (by rw [(hL 0 (Nat.two_pow_pos n)).2, zGc_id h (Nat.two_pow_pos n) (zid_0 n u)]), rfl, rfl⟩)
theorem v_waysWith (h : zOR I A q n u) (hL : zLn A n u) {s a : Nat} (hs : s < 2 ^ n) (ha : a < 32) : zRd X 2 MX4_waysWith [.ref 84, .ref q, .int (nI s), .int (nI a)] (zWd I A t) (nI (zWy n u s a)) := by
  have h8 := h.n8
  have h28 := z28 h8
  refine eX4_waysWith _ _ _ _ (bX4_waysWith_0 _ _ _ _ (zvRd h.1.ob (v_canFollow h (by omega) ha) (by decide) ?_))
  rw [zB_if]
  unfold zWy
  by_cases hc : zcf n u s a = true
  · rw [if_pos hc]
    have hlt := zor_lt hs (zcf_s hc).1
    have e : (nI s ||| (1 : Int32) <<< (nI a &&& 31)) &&& 255 = nI (s ||| 2 ^ a) := by
      rw [zb_1 a (by have := (zcf_s hc).1; omega), zb_or]
      show nI _ &&& nI 255 = _
      rw [zb_and, zand255 (by omega)]
    rw [e]
    exact ⟨_, fr_84_1.rd, _, (ar_86.rd (by omega)).trans (by rw [(hL _ hlt).2]), by rw [if_pos hc], rfl⟩
  · rw [if_neg hc, if_neg hc]
    exact ⟨rfl, rfl⟩
/-- lines that begin with a set -/
def zTh (n : Nat) (u : Nat → Nat) (s : Nat) : Nat := if zid n u s = true then zFl n u s * zGl n u s else 0
theorem v_thatBeginWith (h : zPo n u) (hL : zLn A n u) {s : Nat} (hs : s < 2 ^ n) : zRd X 0 MX4_thatBeginWith [.ref 84, .int (nI s)] (zWd I A t) (nI (zTh n u s)) := by
  have h28 := z28 h.1
  refine eX4_thatBeginWith _ _ (bX4_thatBeginWith_0 _ _ ?_)
  have e : ¬ (256 : Int32) ≤ nI s := by
    show ¬ nI 256 ≤ nI s
    rw [zb_le (by decide) (by omega)]
    omega
  rw [if_neg (nI_pos (by omega)), if_neg e]
  refine ⟨_, fr_84_0.rd, _, (ar_85.rd (by omega)).trans (by rw [(hL s hs).1]), _, fr_84_1.rd, _, (ar_86.rd (by omega)).trans (by rw [(hL s hs).2]), ?_, rfl⟩
  rw [pk_mul]
  unfold zTh
  by_cases hid : zid n u s = true
  · rw [if_pos hid, zGc_id h hs hid]
  · have : zFl n u s = 0 := by
      rcases Nat.eq_zero_or_pos (zFl n u s) with q | q
      · exact q
      · exact absurd ((zFl_pos h hs).mp q) hid
    rw [if_neg hid, this, Nat.zero_mul]
theorem v_withFirstAhead (h : zOR I A q n u) (hL : zLn A n u) {a b : Nat} (ha : a < 32) (hb : b < 32) : zRd X 3 MX4_withFirstAhead [.ref 84, .ref q, .int (nI a), .int (nI b)] (zWd I A t) (nI (zBf n u a b)) := by
  have h8 := h.n8
  have h28 := z28 h8
  rw [← zBf_eq h.2.1]
  refine eX4_withFirstAhead _ _ _ _ (bX4_withFirstAhead_0 _ _ _ _ ?_)
  refine zdown (P := fun k => zRn X 3 0 0 MX4_withFirstAhead 6 [some (.ref 84), some (.ref q), some (.int (nI a)), some (.int (nI b)), some (.int (nI (zsm k (fun s => if s.testBit a = true then zFl n u s * zWy n u s b else 0)))), some (.int (nI k))] [] (zWd I A t) _) (n := 2 ^ n - 1) ?_ (fun k hk ih => ?_) 0 (Nat.zero_le _)
  · refine bX4_withFirstAhead_6 _ _ _ _ _ _ (zvRd h.1.ob (v_all h) (by decide) ?_)
    rw [if_pos (Int32.le_refl _)]
    exact ⟨rfl, rfl⟩
  · refine bX4_withFirstAhead_6 _ _ _ _ _ _ (zvRd h.1.ob (v_all h) (by decide) ?_)
    rw [zi_le (by omega) (by omega), if_neg (by omega), zi_has (by omega) (by omega)]
    rw [zsm_s] at ih
    by_cases hb1 : k.testBit a = true
    · rw [if_pos hb1]
      refine ⟨_, fr_84_0.rd, _, (ar_85.rd (by omega)).trans (by rw [(hL k (by omega)).1]), zvRd ob_84 (v_waysWith h hL (by omega) hb) (by decide) ?_⟩
      refine bX4_withFirstAhead_46 _ _ _ _ _ _ ?_
      rw [pk_mul, nI_add, nI_1]
      rw [if_pos hb1] at ih
      exact ih
    · rw [if_neg hb1]
      refine bX4_withFirstAhead_46 _ _ _ _ _ _ ?_
      rw [nI_1]
      rw [if_neg hb1, Nat.add_zero] at ih
      exact ih
theorem v_withThingAt (h : zOR I A q n u) (hL : zLn A n u) {a i : Nat} (ha : a < 32) (hi : i < 32) : zRd X 3 MX4_withThingAt [.ref 84, .ref q, .int (nI a), .int (nI i)] (zWd I A t) (nI (zAt n u a i)) := by
  have h8 := h.n8
  have h28 := z28 h8
  rw [← zAt_eq h.2.1]
  refine eX4_withThingAt _ _ _ _ (bX4_withThingAt_0 _ _ _ _ ?_)
  refine zdown (P := fun k => zRn X 3 0 0 MX4_withThingAt 6 [some (.ref 84), some (.ref q), some (.int (nI a)), some (.int (nI i)), some (.int (nI (zsm k (fun s => if zpc s = i then zFl n u s * zWy n u s a else 0)))), some (.int (nI k))] [] (zWd I A t) _) (n := 2 ^ n - 1) ?_ (fun k hk ih => ?_) 0 (Nat.zero_le _)
  · refine bX4_withThingAt_6 _ _ _ _ _ _ (zvRd h.1.ob (v_all h) (by decide) ?_)
    rw [if_pos (Int32.le_refl _)]
    exact ⟨rfl, rfl⟩
  · refine bX4_withThingAt_6 _ _ _ _ _ _ (zvRd h.1.ob (v_all h) (by decide) ?_)
    have hp := zpc8 k
    rw [zi_le (by omega) (by omega), if_neg (by omega)]
    refine zcRd (v_bc (by omega)) (by decide) ?_
    rw [zi_eq (by omega) (by omega)]
    rw [zsm_s] at ih
    by_cases hb1 : zpc k = i
    · rw [if_pos hb1]
      refine ⟨_, fr_84_0.rd, _, (ar_85.rd (by omega)).trans (by rw [(hL k (by omega)).1]), zvRd ob_84 (v_waysWith h hL (by omega) ha) (by decide) ?_⟩
      refine bX4_withThingAt_45 _ _ _ _ _ _ ?_
      rw [pk_mul, nI_add, nI_1]
      rw [if_pos hb1] at ih
      exact ih
    · rw [if_neg hb1]
      refine bX4_withThingAt_45 _ _ _ _ _ _ ?_
      rw [nI_1]
      rw [if_neg hb1, Nat.add_zero] at ih
      exact ih
theorem v_placeSum (h : zOR I A q n u) (hL : zLn A n u) {a : Nat} (ha : a < n) : zRd X 4 MX4_placeSum [.ref 84, .ref q, .int (nI a)] (zWd I A t) (nI (zPS n u a)) := by
  have h8 := h.n8
  refine eX4_placeSum _ _ _ (bX4_placeSum_0 _ _ _ ?_)
  have key := zdown (P := fun k => 1 ≤ k → zRn X 4 0 0 MX4_placeSum 5 [some (.ref 84), some (.ref q), some (.int (nI a)), some (.int (nI (zsm k (fun i => i * zAt n u a i)))), some (.int (nI k))] [] (zWd I A t) (fun v w1 => v = some (.int (nI (zPS n u a))) ∧ w1 = zWd I A t)) (n := n) (fun _ => by
    refine bX4_placeSum_5 _ _ _ _ _ (zvRd h.1.ob (v_size h) (by decide) ?_)
    rw [if_pos (Int32.le_refl _)]
    exact ⟨rfl, rfl⟩) (fun k hk ih hk1 => by
    refine bX4_placeSum_5 _ _ _ _ _ (zvRd h.1.ob (v_size h) (by decide) ?_)
    rw [zi_le (by omega) (by omega), if_neg (by omega)]
    refine zvRd ob_84 (v_withThingAt h hL (by omega) (by omega)) (by decide) ?_
    have ih := ih (by omega)
    rw [zsm_s] at ih
    rw [pk_mul, nI_add, nI_1]
    exact ih) 1 (by omega) (Nat.le_refl _)
  rw [zsm_s, zsm_z, Nat.zero_mul] at key
  exact key
theorem v_lineAt (h : zOR I A q n u) (hL : zLn A n u) {k p : Nat} (hk : k < 2 ^ 31) (hp : p < n) : zRd X 3 MX4_thingAt [.ref 84, .ref q, .int (nI k), .int (nI p)] (zWd I A t) (if k < zGl n u 0 then nI (zLi n u k p) else -1) := by
  have h8 := h.n8
  have h28 := z28 h8
  have g31 := zGl_31 (u := u) h8 (Nat.two_pow_pos n)
  refine eX4_thingAt _ _ _ _ (bX4_thingAt_0 _ _ _ _ ?_)
  rw [if_neg (nI_pos hk)]
  refine zvRd ob_84 (v_total h.2.1 hL) (by decide) ?_
  rw [zi_lt hk (by omega)]
  by_cases hkt : k < zGl n u 0
  · rw [if_pos hkt, if_pos hkt]
    have main : ∀ i, i ≤ p + 1 → ∀ x : Int32, (0 < i → x = nI (zLi n u k (i - 1))) → zRn X 3 0 0 MX4_thingAt 26 [some (.ref 84), some (.ref q), none, some (.int (nI p)), some (.int (nI (zLst n u k i).2)), some (.int (nI (zLst n u k i).1)), some (.int x), some (.int (nI i)), none] [] (zWd I A t) (fun v w1 => v = some (.int (nI (zLi n u k p))) ∧ w1 = zWd I A t) := by
      refine zdown ?_ ?_
      · intro x hx
        refine bX4_thingAt_26 _ _ _ _ _ _ _ ?_
        rw [zi_lt (by omega) (by omega), if_pos (by omega), hx (by omega)]
        exact ⟨rfl, rfl⟩
      · intro i hi ih x _
        have hin : i < n := by omega
        obtain ⟨s1, s2, s3, s4⟩ := zLst_ok h.2.1 hkt i (by omega)
        obtain ⟨g1, g2, g3, g4⟩ := zLi_ok h.2.1 hkt hin
        have l31 := zGl_31 (u := u) h8 s1
        refine bX4_thingAt_26 _ _ _ _ _ _ _ ?_
        rw [zi_lt (by omega) (by omega), if_neg (by omega)]
        refine zvRd h.1.ob (v_size h) (by decide) ?_
        rw [zi_le (by omega) (by omega), if_neg (by omega)]
        have inner : ∀ j, j ≤ zLi n u k i → zRn X 3 0 0 MX4_thingAt 44 [some (.ref 84), some (.ref q), none, some (.int (nI p)), some (.int (nI ((zLst n u k i).2 - zsm j (zWG n u (zLst n u k i).1)))), some (.int (nI (zLst n u k i).1)), some (.int (nI j)), some (.int (nI i)), none] [] (zWd I A t) (fun v w1 => v = some (.int (nI (zLi n u k p))) ∧ w1 = zWd I A t) := by
          refine zdown ?_ ?_
          · refine bX4_thingAt_44 _ _ _ _ _ _ _ (zvRd h.1.ob (v_size h) (by decide) ?_)
            rw [zi_le (by omega) (by omega), if_neg (by omega)]
            refine zvRd ob_84 (v_waysWith h hL s1 (by omega)) (by decide) ?_
            rw [zWy_id h.2.1 s1 s2]
            have w31 := zWG_31 (u := u) h8 (a := zLi n u k i) s1
            rw [zsm_s] at g4
            have g5 := g3 _ (Nat.le_refl _)
            rw [zi_le (by omega) (by omega), if_neg (by omega)]
            refine bX4_thingAt_87 _ _ _ _ _ _ _ ?_
            have ih' := ih (nI (zLi n u k i)) (fun _ => by rw [Nat.add_sub_cancel])
            rw [zLst_s] at ih'
            rw [zb_1 _ (by omega), zb_or, nI_1]
            exact ih'
          · intro j hj ihj
            have gj := g3 (j + 1) (by omega)
            rw [zsm_s] at gj ihj
            refine bX4_thingAt_44 _ _ _ _ _ _ _ (zvRd h.1.ob (v_size h) (by decide) ?_)
            rw [zi_le (by omega) (by omega), if_neg (by omega)]
            refine zvRd ob_84 (v_waysWith h hL s1 (by omega)) (by decide) ?_
            rw [zWy_id h.2.1 s1 s2, zi_le (by omega) (by omega), if_pos (by omega), pk_sub (by omega), nI_1, Nat.sub_sub]
            exact ihj
        have i0 := inner 0 (Nat.zero_le _)
        rw [zsm_z, Nat.sub_zero] at i0
        exact i0
    exact main 0 (Nat.zero_le _) (-1) (fun z => absurd z (Nat.lt_irrefl _))
  · rw [if_neg hkt, if_neg hkt]
    exact ⟨rfl, rfl⟩
end ZLi
/-! ===== the two that are balanced best ===== -/
def zof (x y : Int32) : Int32 := if (0 : Int32) ≤ ((2 : Int32) * x) - y then ((2 : Int32) * x) - y else 0 - (((2 : Int32) * x) - y)
def zbs (n : Nat) (u : Nat → Nat) (a b : Nat) (p : Int32 × Int32) : Int32 × Int32 :=
  if zfe u a b = true then (if p.1 = -1 ∨ ¬ p.2 ≤ zof (nI (zBf n u a b)) (nI (zGl n u 0)) then (10 * nI a + nI b, zof (nI (zBf n u a b)) (nI (zGl n u 0))) else p) else p
def zbr (n : Nat) (u : Nat → Nat) (a : Nat) (p : Int32 × Int32) : Nat → Int32 × Int32 := zit (fun j x => zbs n u a (a + 1 + j) x) p
def zbb (n : Nat) (u : Nat → Nat) : Nat → Int32 × Int32 := zit (fun a x => zbr n u a x (n - (a + 1))) (-1, 0)
theorem zbr_s (n : Nat) (u : Nat → Nat) (a : Nat) (p : Int32 × Int32) (j : Nat) : zbr n u a p (j + 1) = zbs n u a (a + 1 + j) (zbr n u a p j) := rfl
theorem zbb_s (n : Nat) (u : Nat → Nat) (a : Nat) : zbb n u (a + 1) = zbr n u a (zbb n u a) (n - (a + 1)) := rfl
def zbg (n : Nat) (p : Int32 × Int32) : Prop := p.1 = -1 ∨ ∃ a b, a < n ∧ b < n ∧ p.1 = nI (10 * a + b)
theorem zbs_g {n : Nat} {u : Nat → Nat} {a b : Nat} (ha : a < n) (hb : b < n) {p : Int32 × Int32} (h : zbg n p) : zbg n (zbs n u a b p) := by
  unfold zbs
  split
  · split
    · right
      refine ⟨a, b, ha, hb, ?_⟩
      show nI 10 * nI a + nI b = _
      rw [pk_mul, nI_add]
    · exact h
  · exact h
theorem zbr_g {n : Nat} {u : Nat → Nat} {a : Nat} {p : Int32 × Int32} (h : zbg n p) : ∀ j, a + 1 + j ≤ n → zbg n (zbr n u a p j)
  | 0, _ => h
  | j + 1, hj => by
    rw [zbr_s]
    exact zbs_g (by omega) (by omega) (zbr_g h j (by omega))
theorem zbb_g {n : Nat} {u : Nat → Nat} : ∀ a, a ≤ n → zbg n (zbb n u a)
  | 0, _ => Or.inl rfl
  | a + 1, h => by
    rw [zbb_s]
    exact zbr_g (zbb_g a (by omega)) _ (by omega)
section ZLb
variable {X : zX} {I A : zF2} {t : zW} {q n : Nat} {u : Nat → Nat}
theorem v_bestBalanced (h : zOR I A q n u) (hL : zLn A n u) : zRd X 4 MX4_bestBalanced [.ref 84, .ref q] (zWd I A t) (zbb n u n).1 := by
  have h8 := h.n8
  have h28 := z28 h8
  refine eX4_bestBalanced _ _ (bX4_bestBalanced_0 _ _ ?_)
  refine zdown (P := fun a => zRn X 4 0 0 MX4_bestBalanced 7 [some (.ref 84), some (.ref q), some (.int (zbb n u a).1), some (.int (zbb n u a).2), some (.int (nI a)), none, none] [] (zWd I A t) _) (n := n) ?_ (fun a ha ih => ?_) 0 (Nat.zero_le _)
  · refine bX4_bestBalanced_7 _ _ _ _ _ (zvRd h.1.ob (v_size h) (by decide) ?_)
    rw [if_pos (Int32.le_refl _)]
    exact ⟨rfl, rfl⟩
  · refine bX4_bestBalanced_7 _ _ _ _ _ (zvRd h.1.ob (v_size h) (by decide) ?_)
    rw [zi_le (by omega) (by omega), if_neg (by omega)]
    rw [zbb_s] at ih
    generalize zbb n u a = p at *
    have inner : ∀ j, j ≤ n - (a + 1) → zRn X 4 0 0 MX4_bestBalanced 22 [some (.ref 84), some (.ref q), some (.int (zbr n u a p j).1), some (.int (zbr n u a p j).2), some (.int (nI a)), some (.int (nI (a + 1 + j))), none] [] (zWd I A t) (fun v w1 => v = some (.int (zbb n u n).1) ∧ w1 = zWd I A t) := by
      refine zdown ?_ ?_
      · refine bX4_bestBalanced_22 _ _ _ _ _ _ (zvRd h.1.ob (v_size h) (by decide) ?_)
        rw [zi_le (by omega) (by omega), if_pos (by omega), nI_1]
        exact ih
      · intro j hj ihj
        refine bX4_bestBalanced_22 _ _ _ _ _ _ (zvRd h.1.ob (v_size h) (by decide) ?_)
        rw [zi_le (by omega) (by omega), if_neg (by omega)]
        have hf := zfr_lt n u a
        refine zvRd h.1.ob (v_freeOf h (by omega)) (by decide) ?_
        rw [zi_has (by omega) (by omega), zfr_fe h.2.1 ha (by omega)]
        rw [zbr_s] at ihj
        generalize zbr n u a p j = r at *
        have leave : zRn X 4 0 0 MX4_bestBalanced 22 [some (.ref 84), some (.ref q), some (.int (zbs n u a (a + 1 + j) r).1), some (.int (zbs n u a (a + 1 + j) r).2), some (.int (nI a)), some (.int (nI (a + 1 + j) + 1)), none] [] (zWd I A t) (fun v w1 => v = some (.int (zbb n u n).1) ∧ w1 = zWd I A t) := by
          rw [nI_1]
          exact ihj
        unfold zbs at leave
        by_cases hfe : zfe u a (a + 1 + j) = true
        · rw [if_pos hfe]
          rw [if_pos hfe] at leave
          refine zvRd ob_84 (v_withFirstAhead h hL (by omega) (by omega)) (by decide) (zvRd ob_84 (v_total h.2.1 hL) (by decide) ⟨by decide, ?_⟩)
          show if r.1 = -1 then zRn X 4 0 0 MX4_bestBalanced 78 [_, _, _, _, _, _, some (.int (zof (nI (zBf n u a (a + 1 + j))) (nI (zGl n u 0))))] _ _ _ else (if r.2 ≤ zof (nI (zBf n u a (a + 1 + j))) (nI (zGl n u 0)) then _ else zRn X 4 0 0 MX4_bestBalanced 78 [_, _, _, _, _, _, some (.int (zof (nI (zBf n u a (a + 1 + j))) (nI (zGl n u 0))))] _ _ _)
          by_cases c1 : r.1 = -1
          · rw [if_pos c1]
            rw [if_pos (Or.inl c1)] at leave
            exact bX4_bestBalanced_78 _ _ _ _ _ (bX4_bestBalanced_90 _ _ _ _ _ _ leave)
          · rw [if_neg c1]
            by_cases c2 : r.2 ≤ zof (nI (zBf n u a (a + 1 + j))) (nI (zGl n u 0))
            · rw [if_pos c2]
              rw [if_neg (by rintro (z | z); exact c1 z; exact z c2)] at leave
              exact bX4_bestBalanced_90 _ _ _ _ _ _ leave
            · rw [if_neg c2]
              rw [if_pos (Or.inr c2)] at leave
              exact bX4_bestBalanced_78 _ _ _ _ _ (bX4_bestBalanced_90 _ _ _ _ _ _ leave)
        · rw [if_neg hfe]
          rw [if_neg hfe] at leave
          exact bX4_bestBalanced_90 _ _ _ _ _ _ leave
    rw [nI_1]
    exact inner 0 (Nat.zero_le _)
end ZLb
