/-- one of a set is below (above) all others of it; S a: those above (below) a, with a -/
def zend (n : Nat) (S : Nat → Nat) (m : Nat) : Bool := zany n (fun a => m.testBit a && decide (zdf m (S a ||| 2 ^ a) = 0))
def zlat (n : Nat) (u : Nat → Nat) (a b : Nat) : Bool := zend n (zov n u) ((zov n u a ||| 2 ^ a) &&& (zov n u b ||| 2 ^ b)) && zend n u ((u a ||| 2 ^ a) &&& (u b ||| 2 ^ b))
def zla (n : Nat) (u : Nat → Nat) : Bool := zall n (fun a => zall n (fun b => !decide (a < b) || zlat n u a b))
theorem zlat_sym (n : Nat) (u : Nat → Nat) (a b : Nat) : zlat n u a b = zlat n u b a := by
  unfold zlat
  rw [Nat.and_comm (zov n u a ||| 2 ^ a), Nat.and_comm (u a ||| 2 ^ a)]
theorem zor2 {n a x : Nat} (hx : x < 2 ^ n) (ha : a < n) : x ||| 2 ^ a < 2 ^ n := Nat.or_lt_two_pow hx (Nat.pow_lt_pow_right (by decide) ha)
section ZK2
variable {X : zX} {I A : zF2} {t : zW} {q n : Nat} {u : Nat → Nat}
theorem v_upFrom (h : zOR I A q n u) {a : Nat} (ha : a < n) : zRd X 2 MX10_upFrom [.ref q, .int (nI a)] (zWd I A t) (nI (zov n u a ||| 2 ^ a)) := by
  have h8 := h.n8
  refine eX10_upFrom _ _ (bX10_upFrom_0 _ _ (zvRd h.1.ob (v_aboveOf h (by omega)) (by decide) ⟨?_, rfl⟩))
  rw [zb_1 a (by omega), zb_or]
theorem v_downFrom (h : zOR I A q n u) {a : Nat} (ha : a < n) : zRd X 2 MX10_downFrom [.ref q, .int (nI a)] (zWd I A t) (nI (u a ||| 2 ^ a)) := by
  have h8 := h.n8
  refine eX10_downFrom _ _ (bX10_downFrom_0 _ _ (zvRd h.1.ob (v_belowOf h (by omega)) (by decide) ⟨?_, rfl⟩))
  rw [zb_1 a (by omega), zb_or]
theorem v_hasLeast (h : zOR I A q n u) {m : Nat} (hm : m < 2 ^ n) : zRd X 3 MX10_hasLeast [.ref q, .int (nI m)] (zWd I A t) (zB (zend n (zov n u) m)) := by
  have h8 := h.n8
  have h28 := z28 h8
  refine eX10_hasLeast _ _ (bX10_hasLeast_0 _ _ ?_)
  refine zloopE (R := fun k b => zRn X 3 0 0 MX10_hasLeast 2 [some (.ref q), some (.int (nI m)), some (.int (nI k))] [] (zWd I A t) (zQb (zWd I A t) b)) ?_ (fun k hk b h1 h2 => ?_)
  · refine bX10_hasLeast_2 _ _ _ (zvRd h.1.ob (v_size h) (by decide) ?_)
    rw [if_pos (Int32.le_refl _)]
    exact ⟨rfl, rfl⟩
  · refine bX10_hasLeast_2 _ _ _ (zvRd h.1.ob (v_size h) (by decide) ?_)
    rw [zi_le (by omega) (by omega), if_neg (by omega), zi_has (by omega) (by omega)]
    by_cases hb : m.testBit k = true
    · rw [if_pos hb]
      refine zcRd (v_upFrom h hk) (by decide) ?_
      have l := zdf_lt (b := zov n u k ||| 2 ^ k) hm
      rw [zb_df, zi_0 (by omega)]
      by_cases h0 : zdf m (zov n u k ||| 2 ^ k) = 0
      · rw [if_pos h0, h2 (by simp only [hb, h0]; rfl)]
        exact ⟨rfl, rfl⟩
      · rw [if_neg h0]
        refine bX10_hasLeast_33 _ _ _ ?_
        rw [nI_1]
        exact h1 (by simp [h0])
    · rw [if_neg hb]
      refine bX10_hasLeast_33 _ _ _ ?_
      rw [nI_1]
      exact h1 (by simp only [hb]; rfl)
theorem v_hasGreatest (h : zOR I A q n u) {m : Nat} (hm : m < 2 ^ n) : zRd X 3 MX10_hasGreatest [.ref q, .int (nI m)] (zWd I A t) (zB (zend n u m)) := by
  have h8 := h.n8
  have h28 := z28 h8
  refine eX10_hasGreatest _ _ (bX10_hasGreatest_0 _ _ ?_)
  refine zloopE (R := fun k b => zRn X 3 0 0 MX10_hasGreatest 2 [some (.ref q), some (.int (nI m)), some (.int (nI k))] [] (zWd I A t) (zQb (zWd I A t) b)) ?_ (fun k hk b h1 h2 => ?_)
  · refine bX10_hasGreatest_2 _ _ _ (zvRd h.1.ob (v_size h) (by decide) ?_)
    rw [if_pos (Int32.le_refl _)]
    exact ⟨rfl, rfl⟩
  · refine bX10_hasGreatest_2 _ _ _ (zvRd h.1.ob (v_size h) (by decide) ?_)
    rw [zi_le (by omega) (by omega), if_neg (by omega), zi_has (by omega) (by omega)]
    by_cases hb : m.testBit k = true
    · rw [if_pos hb]
      refine zcRd (v_downFrom h hk) (by decide) ?_
      have l := zdf_lt (b := u k ||| 2 ^ k) hm
      rw [zb_df, zi_0 (by omega)]
      by_cases h0 : zdf m (u k ||| 2 ^ k) = 0
      · rw [if_pos h0, h2 (by simp only [hb, h0]; rfl)]
        exact ⟨rfl, rfl⟩
      · rw [if_neg h0]
        refine bX10_hasGreatest_33 _ _ _ ?_
        rw [nI_1]
        exact h1 (by simp [h0])
    · rw [if_neg hb]
      refine bX10_hasGreatest_33 _ _ _ ?_
      rw [nI_1]
      exact h1 (by simp only [hb]; rfl)
theorem v_isLattice (h : zOR I A q n u) : zRd X 4 MX10_isLattice [.ref q] (zWd I A t) (zB (zla n u)) := by
  have h8 := h.n8
  have h28 := z28 h8
  refine eX10_isLattice _ (bX10_isLattice_0 _ ?_)
  refine zloopA (R := fun k b => zRn X 4 0 0 MX10_isLattice 2 [some (.ref q), some (.int (nI k)), none, none, none] [] (zWd I A t) (zQb (zWd I A t) b)) ?_ (fun a ha b h1 h2 => ?_)
  · refine bX10_isLattice_2 _ _ (zvRd h.1.ob (v_size h) (by decide) ?_)
    rw [if_pos (Int32.le_refl _)]
    exact ⟨rfl, rfl⟩
  · refine bX10_isLattice_2 _ _ (zvRd h.1.ob (v_size h) (by decide) ?_)
    rw [zi_le (by omega) (by omega), if_neg (by omega), nI_1]
    have inner := zdown (P := fun k => a < k → (∀ c, a < c → c < k → zlat n u a c = true) → zRn X 4 0 0 MX10_isLattice 14 [some (.ref q), some (.int (nI a)), some (.int (nI k)), none, none] [] (zWd I A t) (zQb (zWd I A t) b)) (n := n) (fun _ hp => by
      refine bX10_isLattice_14 _ _ _ (zvRd h.1.ob (v_size h) (by decide) ?_)
      rw [if_pos (Int32.le_refl _), nI_1]
      refine h1 (zall_iff.mpr (fun c hc => ?_))
      by_cases hac : a < c
      · simp [hac, hp c hac hc]
      · simp [hac]) (fun k hk ih hak hp => by
      refine bX10_isLattice_14 _ _ _ (zvRd h.1.ob (v_size h) (by decide) ?_)
      rw [zi_le (by omega) (by omega), if_neg (by omega)]
      refine zcRd (v_upFrom h ha) (by decide) (zcRd (v_upFrom h hk) (by decide) (zcRd (v_downFrom h ha) (by decide) (zcRd (v_downFrom h hk) (by decide) ?_)))
      rw [zb_and, zb_and]
      have m1 := zand_lt (b := zov n u k ||| 2 ^ k) (zor2 (zov_lt n u a) ha)
      have m2 := zand_lt (b := u k ||| 2 ^ k) (zor2 (h.2.1.2.1 a) ha)
      refine zcRd (v_hasLeast h m1) (by decide) ?_
      have bad : zlat n u a k = false → b = false := fun z => h2 (zall_no hk (by simp only [hak, z]; rfl))
      rw [zB_if]
      by_cases g1 : zend n (zov n u) ((zov n u a ||| 2 ^ a) &&& (zov n u k ||| 2 ^ k)) = true
      · rw [if_pos g1]
        refine zcRd (v_hasGreatest h m2) (by decide) ?_
        rw [zB_if]
        by_cases g2 : zend n u ((u a ||| 2 ^ a) &&& (u k ||| 2 ^ k)) = true
        · rw [if_pos g2, nI_1]
          refine ih (by omega) (fun c hac hck => ?_)
          rcases Nat.lt_or_ge c k with z | z
          · exact hp c hac z
          · have : c = k := by omega
            subst this
            unfold zlat
            rw [g1, g2]
            rfl
        · rw [if_neg g2, bad (by unfold zlat; simp only [g2]; simp)]
          exact ⟨rfl, rfl⟩
      · rw [if_neg g1, bad (by unfold zlat; simp only [g1]; rfl)]
        exact ⟨rfl, rfl⟩)
    exact inner (a + 1) (by omega) (by omega) (fun c h1 h2 => by omega)
end ZK2
section ZK3
variable {X : zX} {I A : zF2} {t : zW} {s n R : Nat} {u : Nat → Nat} {h : Nat → Nat → Nat}
theorem m_isN (H : zMR A s n u R h) {a b c d : Nat} (ha : a < 8) (hb : b < 8) (hc : c < 8) (hd : d < 8) : zRd X 4 MX12_isN [.ref 98, .int (nI s), .int (nI a), .int (nI b), .int (nI c), .int (nI d)] (zWd I A t) (zB (zkN u a b c d)) := by
  refine eX12_isN _ _ _ _ _ _ (bX12_isN_0 _ _ _ _ _ _ (zvRd ob_98 (m_isBelow H (by omega) hc) (by decide) ?_))
  unfold zkN
  rw [zB_if]
  cases h1 : zlt u a c
  · exact ⟨rfl, rfl⟩
  rw [if_pos rfl]
  refine zvRd ob_98 (m_isBelow H (by omega) hc) (by decide) ?_
  rw [zB_if]
  cases h2 : zlt u b c
  · exact ⟨rfl, rfl⟩
  rw [if_pos rfl]
  refine zvRd ob_98 (m_isBelow H (by omega) hd) (by decide) ?_
  rw [zB_if]
  cases h3 : zlt u b d
  · exact ⟨rfl, rfl⟩
  rw [if_pos rfl]
  refine zvRd ob_98 (m_areFree H ha hb) (by decide) ?_
  rw [zB_if]
  cases h4 : zfe u a b
  · exact ⟨rfl, rfl⟩
  rw [if_pos rfl]
  refine zvRd ob_98 (m_areFree H ha hd) (by decide) ?_
  rw [zB_if]
  cases h5 : zfe u a d
  · exact ⟨rfl, rfl⟩
  rw [if_pos rfl]
  refine zvRd ob_98 (m_areFree H hc hd) (by decide) ?_
  rw [zB_if]
  cases h6 : zfe u c d
  · exact ⟨rfl, rfl⟩
  · exact ⟨rfl, rfl⟩
theorem m_isTwoAndTwo (H : zMR A s n u R h) {a b c d : Nat} (ha : a < 8) (hb : b < 8) (hc : c < 8) (hd : d < 8) : zRd X 4 MX12_isTwoAndTwo [.ref 98, .int (nI s), .int (nI a), .int (nI b), .int (nI c), .int (nI d)] (zWd I A t) (zB (zk2 u a b c d)) := by
  refine eX12_isTwoAndTwo _ _ _ _ _ _ (bX12_isTwoAndTwo_0 _ _ _ _ _ _ (zvRd ob_98 (m_isBelow H (by omega) hb) (by decide) ?_))
  unfold zk2
  rw [zB_if]
  cases h1 : zlt u a b
  · exact ⟨rfl, rfl⟩
  rw [if_pos rfl]
  refine zvRd ob_98 (m_isBelow H (by omega) hd) (by decide) ?_
  rw [zB_if]
  cases h2 : zlt u c d
  · exact ⟨rfl, rfl⟩
  rw [if_pos rfl]
  refine zvRd ob_98 (m_areFree H ha hc) (by decide) ?_
  rw [zB_if]
  cases h3 : zfe u a c
  · exact ⟨rfl, rfl⟩
  rw [if_pos rfl]
  refine zvRd ob_98 (m_areFree H ha hd) (by decide) ?_
  rw [zB_if]
  cases h4 : zfe u a d
  · exact ⟨rfl, rfl⟩
  rw [if_pos rfl]
  refine zvRd ob_98 (m_areFree H hb hc) (by decide) ?_
  rw [zB_if]
  cases h5 : zfe u b c
  · exact ⟨rfl, rfl⟩
  rw [if_pos rfl]
  refine zvRd ob_98 (m_areFree H hb hd) (by decide) ?_
  rw [zB_if]
  cases h6 : zfe u b d
  · exact ⟨rfl, rfl⟩
  · exact ⟨rfl, rfl⟩
theorem m_isThreeAndOne (H : zMR A s n u R h) {a b c d : Nat} (ha : a < 8) (hb : b < 8) (hc : c < 8) (hd : d < 8) : zRd X 4 MX12_isThreeAndOne [.ref 98, .int (nI s), .int (nI a), .int (nI b), .int (nI c), .int (nI d)] (zWd I A t) (zB (zk3 u a b c d)) := by
  refine eX12_isThreeAndOne _ _ _ _ _ _ (bX12_isThreeAndOne_0 _ _ _ _ _ _ (zvRd ob_98 (m_isBelow H (by omega) hb) (by decide) ?_))
  unfold zk3
  rw [zB_if]
  cases h1 : zlt u a b
  · exact ⟨rfl, rfl⟩
  rw [if_pos rfl]
  refine zvRd ob_98 (m_isBelow H (by omega) hc) (by decide) ?_
  rw [zB_if]
  cases h2 : zlt u b c
  · exact ⟨rfl, rfl⟩
  rw [if_pos rfl]
  refine zvRd ob_98 (m_areFree H ha hd) (by decide) ?_
  rw [zB_if]
  cases h3 : zfe u a d
  · exact ⟨rfl, rfl⟩
  rw [if_pos rfl]
  refine zvRd ob_98 (m_areFree H hb hd) (by decide) ?_
  rw [zB_if]
  cases h4 : zfe u b d
  · exact ⟨rfl, rfl⟩
  rw [if_pos rfl]
  refine zvRd ob_98 (m_areFree H hc hd) (by decide) ?_
  rw [zB_if]
  cases h5 : zfe u c d
  · exact ⟨rfl, rfl⟩
  · exact ⟨rfl, rfl⟩
/-- the kinds by their numbers -/
def zkd (u : Nat → Nat) (k : Nat) : Nat → Nat → Nat → Nat → Bool := if k = 2 then zkN u else if k = 3 then zk2 u else zk3 u
theorem m_isOfKind (H : zMR A s n u R h) {k a b c d : Nat} (hk : k < 2 ^ 31) (ha : a < 8) (hb : b < 8) (hc : c < 8) (hd : d < 8) : zRd X 5 MX12_isOfKind [.ref 98, .int (nI s), .int (nI k), .int (nI a), .int (nI b), .int (nI c), .int (nI d)] (zWd I A t) (zB (zkd u k a b c d)) := by
  refine eX12_isOfKind _ _ _ _ _ _ _ (bX12_isOfKind_0 _ _ _ _ _ _ _ ?_)
  unfold zkd
  show if nI k = nI 2 then _ else if nI k = nI 3 then _ else _
  rw [zi_eq hk (by decide), zi_eq hk (by decide)]
  by_cases h2 : k = 2
  · rw [if_pos h2, if_pos h2]
    exact zvRd ob_98 (m_isN H ha hb hc hd) (by decide) ⟨zB_ok _, rfl, rfl⟩
  · rw [if_neg h2, if_neg h2]
    by_cases h3 : k = 3
    · rw [if_pos h3, if_pos h3]
      exact zvRd ob_98 (m_isTwoAndTwo H ha hb hc hd) (by decide) ⟨zB_ok _, rfl, rfl⟩
    · rw [if_neg h3, if_neg h3]
      exact zvRd ob_98 (m_isThreeAndOne H ha hb hc hd) (by decide) ⟨zB_ok _, rfl, rfl⟩
theorem m_isWithout (H : zMR A s n u R h) {k : Nat} (hk : k < 2 ^ 31) : zRd X 6 MX12_isWithout [.ref 98, .int (nI s), .int (nI k)] (zWd I A t) (zB (!zex4 n (zkd u k))) := by
  have h8 := H.2.1.1
  have n2 : n * n ≤ 64 := Nat.mul_le_mul h8 h8
  have n3 : n * n * n ≤ 512 := Nat.mul_le_mul n2 h8
  have n4 : n * n * n * n ≤ 4096 := Nat.mul_le_mul n3 h8
  refine eX12_isWithout _ _ _ (bX12_isWithout_0 _ _ _ (zvRd ob_98 (m_many H) (by decide) ?_))
  unfold zex4
  refine zloopE (R := fun x b => zRn X 6 0 0 MX12_isWithout 9 [some (.ref 98), some (.int (nI s)), some (.int (nI k)), some (.int (nI n)), some (.int (nI x))] [] (zWd I A t) (zQb (zWd I A t) (!b))) ?_ (fun x hx b h1 h2 => ?_)
  · refine bX12_isWithout_9 _ _ _ _ _ ?_
    rw [pk_mul, pk_mul, pk_mul, if_pos (Int32.le_refl _)]
    exact ⟨rfl, rfl⟩
  · refine bX12_isWithout_9 _ _ _ _ _ ?_
    have hn : 0 < n := by
      rcases Nat.eq_zero_or_pos n with z | z
      · rw [z] at hx
        omega
      · exact z
    have e0 : ¬ nI n = 0 := nI_ne0 hn (by omega)
    have d1 : x / n ≤ x := Nat.div_le_self _ _
    have d2 : x / n / n ≤ x / n := Nat.div_le_self _ _
    have d3 : x / n / n / n ≤ x / n / n := Nat.div_le_self _ _
    rw [pk_mul, pk_mul, pk_mul, zi_le (by omega) (by omega), if_neg (by omega)]
    refine ⟨e0, e0, e0, e0, e0, e0, e0, e0, e0, ?_⟩
    rw [pk_rem (by omega) hn (by omega), pk_div (by omega) hn (by omega), pk_rem (by omega) hn (by omega), pk_div (by omega) hn (by omega), pk_rem (by omega) hn (by omega), pk_div (by omega) hn (by omega)]
    have q1 : x / n / n / n < n := by
      rw [Nat.div_lt_iff_lt_mul hn, Nat.div_lt_iff_lt_mul hn, Nat.div_lt_iff_lt_mul hn]
      exact hx
    have q2 := Nat.mod_lt (x / n / n) hn
    have q3 := Nat.mod_lt (x / n) hn
    have q4 := Nat.mod_lt x hn
    refine zvRd ob_98 (m_isOfKind H hk (by omega) (by omega) (by omega) (by omega)) (by decide) ?_
    rw [zB_if]
    by_cases hp : zkd u k (x / n / n / n) (x / n / n % n) (x / n % n) (x % n) = true
    · rw [if_pos hp, h2 hp]
      exact ⟨rfl, rfl⟩
    · rw [if_neg hp, nI_1]
      exact h1 (by simpa using hp)
theorem zend_eq (S : Nat → Nat) (m : Nat) : zend n S m = zany n (fun a => m.testBit a && decide (zdf (zdf m (2 ^ a)) (S a) = 0)) := by
  unfold zend
  congr 1
  funext a
  have : zdf m (S a ||| 2 ^ a) = zdf (zdf m (2 ^ a)) (S a) := zext (fun i => by
    rw [zdf_bit, zdf_bit, zdf_bit, Nat.testBit_or]
    cases m.testBit i <;> cases (S a).testBit i <;> cases (2 ^ a).testBit i <;> rfl)
  rw [this]
theorem m_hasEnd (H : zMR A s n u R h) {m : Nat} (hm : m < 2 ^ n) (up : Bool) : zRd X 4 MX12_hasEnd [.ref 98, .int (nI s), .int (nI m), .int (zB up)] (zWd I A t) (zB (zend n (zS n u up) m)) := by
  have h8 := H.2.1.1
  have h28 := z28 h8
  refine eX12_hasEnd _ _ _ _ (bX12_hasEnd_0 _ _ _ _ ?_)
  rw [zend_eq]
  refine zloopE (R := fun k b => zRn X 4 0 0 MX12_hasEnd 3 [some (.ref 98), some (.int (nI s)), some (.int (nI m)), some (.int (zB up)), some (.int (nI k)), none] [] (zWd I A t) (zQb (zWd I A t) b)) ?_ (fun k hk b h1 h2 => ?_)
  · refine bX12_hasEnd_3 _ _ _ _ _ (zvRd ob_98 (m_many H) (by decide) ?_)
    rw [if_pos (Int32.le_refl _)]
    exact ⟨rfl, rfl⟩
  · refine bX12_hasEnd_3 _ _ _ _ _ (zvRd ob_98 (m_many H) (by decide) ?_)
    rw [zi_le (by omega) (by omega), if_neg (by omega)]
    refine zcRd (m_has (by omega) (by omega)) (by decide) ?_
    rw [zB_if]
    by_cases hb : m.testBit k = true
    · rw [if_pos hb, zB_if, zb_1 k (by omega), zb_df]
      have go : zRn X 4 0 0 MX12_hasEnd 55 [some (.ref 98), some (.int (nI s)), some (.int (nI m)), some (.int (zB up)), some (.int (nI k)), none] [.int (nI (zS n u up k)), .int (nI (zdf m (2 ^ k)))] (zWd I A t) (zQb (zWd I A t) b) := by
        refine bX12_hasEnd_55 _ _ _ _ _ _ _ ?_
        have l := zdf_lt (b := zS n u up k) (zdf_lt (b := 2 ^ k) hm)
        rw [zb_df, zi_0 (by omega)]
        by_cases h0 : zdf (zdf m (2 ^ k)) (zS n u up k) = 0
        · rw [if_pos h0, h2 (by simp only [hb, h0]; rfl)]
          exact ⟨rfl, rfl⟩
        · rw [if_neg h0]
          refine bX12_hasEnd_63 _ _ _ _ _ ?_
          rw [nI_1]
          exact h1 (by simp [h0])
      cases up
      · rw [if_neg (by simp)]
        exact zvRd ob_98 (m_under H (by omega)) (by decide) go
      · rw [if_pos rfl]
        exact zvRd ob_98 (m_over H (by omega)) (by decide) go
    · rw [if_neg hb]
      refine bX12_hasEnd_63 _ _ _ _ _ ?_
      rw [nI_1]
      exact h1 (by simp only [hb]; rfl)
theorem zla_eq (n : Nat) (u : Nat → Nat) : zla n u = zall n (fun a => zall n (fun b => !decide (b < a) || zlat n u a b)) := by
  rw [Bool.eq_iff_iff]
  unfold zla
  rw [zall_iff, zall_iff]
  constructor
  · intro h a ha
    refine zall_iff.mpr (fun b hb => ?_)
    have := zall_iff.mp (h b hb) a ha
    rw [zlat_sym]
    exact this
  · intro h a ha
    refine zall_iff.mpr (fun b hb => ?_)
    have := zall_iff.mp (h b hb) a ha
    rw [zlat_sym]
    exact this
theorem m_isLattice (H : zMR A s n u R h) : zRd X 5 MX12_isLattice [.ref 98, .int (nI s)] (zWd I A t) (zB (zla n u)) := by
  have h8 := H.2.1.1
  have h28 := z28 h8
  refine eX12_isLattice _ _ (bX12_isLattice_0 _ _ ?_)
  rw [zla_eq]
  refine zloopA (R := fun k b => zRn X 5 0 0 MX12_isLattice 2 [some (.ref 98), some (.int (nI s)), some (.int (nI k)), none, none, none] [] (zWd I A t) (zQb (zWd I A t) b)) ?_ (fun a ha b h1 h2 => ?_)
  · refine bX12_isLattice_2 _ _ _ (zvRd ob_98 (m_many H) (by decide) ?_)
    rw [if_pos (Int32.le_refl _)]
    exact ⟨rfl, rfl⟩
  · refine bX12_isLattice_2 _ _ _ (zvRd ob_98 (m_many H) (by decide) ?_)
    rw [zi_le (by omega) (by omega), if_neg (by omega)]
    have inner := zdown (P := fun k => (∀ c, c < k → zlat n u a c = true) → zRn X 5 0 0 MX12_isLattice 13 [some (.ref 98), some (.int (nI s)), some (.int (nI a)), some (.int (nI k)), none, none] [] (zWd I A t) (zQb (zWd I A t) b)) (n := a) (fun hp => by
      refine bX12_isLattice_13 _ _ _ _ ?_
      rw [if_pos (Int32.le_refl _), nI_1]
      refine h1 (zall_iff.mpr (fun c hc => ?_))
      by_cases hac : c < a
      · simp [hac, hp c hac]
      · simp [hac]) (fun k hk ih hp => by
      refine bX12_isLattice_13 _ _ _ _ ?_
      rw [zi_le (by omega) (by omega), if_neg (by omega)]
      refine zvRd ob_98 (m_over H (by omega)) (by decide) (zvRd ob_98 (m_over H (by omega)) (by decide) (zvRd ob_98 (m_under H (by omega)) (by decide) (zvRd ob_98 (m_under H (by omega)) (by decide) ?_)))
      rw [zb_1 a (by omega), zb_1 k (by omega), zb_or, zb_or, zb_or, zb_or, zb_and, zb_and]
      have m1 := zand_lt (b := zov n u k ||| 2 ^ k) (zor2 (zov_lt n u a) ha)
      have m2 := zand_lt (b := u k ||| 2 ^ k) (zor2 (H.2.1.2.1 a) ha)
      refine zvRd ob_98 (m_hasEnd H m1 true) (by decide) ?_
      have bad : zlat n u a k = false → b = false := fun z => h2 (zall_no (show k < n by omega) (by simp only [hk, z]; rfl))
      rw [zB_if]
      show if zend n (zov n u) ((zov n u a ||| 2 ^ a) &&& (zov n u k ||| 2 ^ k)) = true then _ else _
      by_cases g1 : zend n (zov n u) ((zov n u a ||| 2 ^ a) &&& (zov n u k ||| 2 ^ k)) = true
      · rw [if_pos g1]
        refine zvRd ob_98 (m_hasEnd H m2 false) (by decide) ?_
        rw [zB_if]
        show if zend n u ((u a ||| 2 ^ a) &&& (u k ||| 2 ^ k)) = true then _ else _
        by_cases g2 : zend n u ((u a ||| 2 ^ a) &&& (u k ||| 2 ^ k)) = true
        · rw [if_pos g2, nI_1]
          refine ih (fun c hck => ?_)
          rcases Nat.lt_or_ge c k with z | z
          · exact hp c z
          · have : c = k := by omega
            subst this
            unfold zlat
            rw [g1, g2]
            rfl
        · rw [if_neg g2, bad (by unfold zlat; simp only [g2]; simp)]
          exact ⟨rfl, rfl⟩
      · rw [if_neg g1, bad (by unfold zlat; simp only [g1]; rfl)]
        exact ⟨rfl, rfl⟩)
    exact inner 0 (Nat.zero_le _) (fun c h => absurd h (Nat.not_lt_zero _))
end ZK3
