/-! ===== the class's search ===== -/
abbrev zSA (A : zF2) (Pl Us Be Sa : Nat → Int32) : zF2 := va_up (va_up (va_up (va_up A 92 Pl) 93 Us) 94 Be) 95 Sa
theorem zSA_92 (A : zF2) (Pl Us Be Sa : Nat → Int32) : zSA A Pl Us Be Sa 92 = Pl := by unfold zSA; rw [zup_ne (by decide), zup_ne (by decide), zup_ne (by decide), zup_eq]
theorem zSA_93 (A : zF2) (Pl Us Be Sa : Nat → Int32) : zSA A Pl Us Be Sa 93 = Us := by unfold zSA; rw [zup_ne (by decide), zup_ne (by decide), zup_eq]
theorem zSA_94 (A : zF2) (Pl Us Be Sa : Nat → Int32) : zSA A Pl Us Be Sa 94 = Be := by unfold zSA; rw [zup_ne (by decide), zup_eq]
theorem zSA_95 (A : zF2) (Pl Us Be Sa : Nat → Int32) : zSA A Pl Us Be Sa 95 = Sa := zup_eq
theorem zSA_lo (A : zF2) (Pl Us Be Sa : Nat → Int32) {p : Nat} (hp : p < 92) : zSA A Pl Us Be Sa p = A p := by unfold zSA; rw [zup_ne (by omega), zup_ne (by omega), zup_ne (by omega), zup_ne (by omega)]
theorem zSA_s92 (A : zF2) (Pl Us Be Sa Pl' : Nat → Int32) : va_up (zSA A Pl Us Be Sa) 92 Pl' = zSA A Pl' Us Be Sa := by
  unfold zSA
  rw [zup_comm _ (by decide), zup_comm _ (show (94 : Nat) ≠ 92 by decide), zup_comm _ (show (93 : Nat) ≠ 92 by decide), bx_uu]
theorem zSA_s93 (A : zF2) (Pl Us Be Sa Us' : Nat → Int32) : va_up (zSA A Pl Us Be Sa) 93 Us' = zSA A Pl Us' Be Sa := by
  unfold zSA
  rw [zup_comm _ (by decide), zup_comm _ (show (94 : Nat) ≠ 93 by decide), bx_uu]
theorem zSA_s94 (A : zF2) (Pl Us Be Sa Be' : Nat → Int32) : va_up (zSA A Pl Us Be Sa) 94 Be' = zSA A Pl Us Be' Sa := by
  unfold zSA
  rw [zup_comm _ (by decide), bx_uu]
theorem zSA_s95 (A : zF2) (Pl Us Be Sa Sa' : Nat → Int32) : va_up (zSA A Pl Us Be Sa) 95 Sa' = zSA A Pl Us Be Sa' := by
  unfold zSA
  rw [bx_uu]
theorem zSA_id (A : zF2) : zSA A (A 92) (A 93) (A 94) (A 95) = A := by
  unfold zSA
  rw [zup_self, zup_self, zup_self, zup_self]
theorem zSA_or {I A : zF2} {q n : Nat} {u : Nat → Nat} (h : zOR I A q n u) (Pl Us Be Sa : Nat → Int32) : zOR I (zSA A Pl Us Be Sa) q n u := (((h.up (p := 92) (by decide)).up (p := 93) (by decide)).up (p := 94) (by decide)).up (p := 95) (by decide)
/-- what must come behind each, in each place -/
def zBe (Be : Nat → Int32) (n : Nat) (U : Nat → Nat → Nat) : Prop := ∀ p x, p < 4 → x < n → Be (8 * p + x) = nI (zov n (U p) x)
section ZRu
variable {X : zX} {I A : zF2} {t : zW} {q n : Nat} {u : Nat → Nat} {T : List (Nat × Nat)}
theorem v_startPlaces (h : zOR I A q n u) : ∀ (Pl Us Be Sa : Nat → Int32), zEv X 2 0 0 MX9_startPlaces [.ref 89, .ref q] (zWd I (zSA A Pl Us Be Sa) t) (fun v w1 => v = none ∧ ∃ Be', w1 = zWd I (zSA A Pl Us Be' Sa) t ∧ zBe Be' n (fun _ => u)) := by
  intro Pl Us Be Sa
  have h8 := h.n8
  refine eX9_startPlaces _ _ (bX9_startPlaces_0 _ _ ?_)
  have key : ∀ p, p ≤ 4 → ∀ Be : Nat → Int32, (∀ p' x, p' < p → x < 8 → Be (8 * p' + x) = nI (zov n u x)) → zRn X 2 0 0 MX9_startPlaces 2 [some (.ref 89), some (.ref q), some (.int (nI p)), none] [] (zWd I (zSA A Pl Us Be Sa) t) (fun v w1 => v = none ∧ ∃ Be', w1 = zWd I (zSA A Pl Us Be' Sa) t ∧ zBe Be' n (fun _ => u)) := by
    refine zdown ?_ ?_
    · intro Be hB
      refine bX9_startPlaces_2 _ _ _ ?_
      rw [if_pos (by decide)]
      exact ⟨rfl, Be, rfl, fun p x hp hx => hB p x hp (by omega)⟩
    · intro p hp ih Be hB
      refine bX9_startPlaces_2 _ _ _ ?_
      show if nI 4 ≤ nI p then _ else _
      rw [zi_le (by omega) (by omega), if_neg (by omega)]
      have inner : ∀ x, x ≤ 8 → ∀ Be : Nat → Int32, (∀ p' x, p' < p → x < 8 → Be (8 * p' + x) = nI (zov n u x)) → (∀ x', x' < x → Be (8 * p + x') = nI (zov n u x')) → zRn X 2 0 0 MX9_startPlaces 9 [some (.ref 89), some (.ref q), some (.int (nI p)), some (.int (nI x))] [] (zWd I (zSA A Pl Us Be Sa) t) (fun v w1 => v = none ∧ ∃ Be', w1 = zWd I (zSA A Pl Us Be' Sa) t ∧ zBe Be' n (fun _ => u)) := by
        refine zdown ?_ ?_
        · intro Be hB hx
          refine bX9_startPlaces_9 _ _ _ _ ?_
          rw [if_pos (by decide), nI_1]
          refine ih Be (fun p' x hp' hx8 => ?_)
          rcases Nat.lt_or_ge p' p with z | z
          · exact hB p' x z hx8
          · have : p' = p := by omega
            subst this
            exact hx x hx8
        · intro x hx ihx Be hB hBx
          have h0 := zSA_or h Pl Us Be Sa
          refine bX9_startPlaces_9 _ _ _ _ ?_
          show if nI 8 ≤ nI x then _ else _
          rw [zi_le (by omega) (by omega), if_neg (by omega)]
          refine ⟨_, fr_89_4.rd, zvRd h0.1.ob (v_aboveOf h0 (by omega)) (by decide) ⟨zWd I (zSA A Pl Us (upd Be (8 * p + x) (nI (zov n u x))) Sa) t, ?_, ?_⟩⟩
          · show zsI _ _ (nI p * nI 8 + nI x) _ = _
            rw [pk_mul, nI_add, show p * 8 + x = 8 * p + x by omega, ar_94.wr (by omega), zSA_94, zSA_s94]
          · rw [nI_1]
            refine ihx _ (fun p' x' hp' hx' => ?_) (fun x' hx' => ?_)
            · rw [upd_ne _ _ (by omega)]
              exact hB p' x' hp' hx'
            · by_cases e : x' = x
              · rw [e, upd_eq]
              · rw [upd_ne _ _ (by omega)]
                exact hBx x' (by omega)
      exact inner 0 (Nat.zero_le _) Be hB (fun x' hx' => absurd hx' (Nat.not_lt_zero _))
  exact key 0 (Nat.zero_le _) Be (fun p' x hp' => absurd hp' (Nat.not_lt_zero _))
theorem v_canStand (hT : zTw (A 90) (A 91) T) {Pl Us Be Sa : Nat → Int32} {U : Nat → Nat → Nat} {k a b p : Nat} (hk : k < 56) (e : T[k]? = some (a, b)) (ha : a < n) (hb : b < n) (hp : p < 4) (hPl : Pl k = nI p) (hB : zBe Be n U) (hU : zPo n (U p)) : zRd X 0 MX9_canStand [.ref 89, .int (nI k)] (zWd I (zSA A Pl Us Be Sa) t) (zB (!zlt (U p) a b)) := by
  obtain ⟨t1, t2⟩ := hT k a b e
  have h8 := hU.1
  have h28 := z28 h8
  have l1 := zov_lt n (U p) a
  have g1 : zaI (zWd I (zSA A Pl Us Be Sa) t) 92 (nI k) = some (nI p) := by rw [ar_92.rd hk, zSA_92, hPl]
  have g2 : zaI (zWd I (zSA A Pl Us Be Sa) t) 90 (nI k) = some (nI a) := by rw [ar_90.rd hk, zSA_lo _ _ _ _ _ (by decide), t1]
  have g3 : zaI (zWd I (zSA A Pl Us Be Sa) t) 91 (nI k) = some (nI b) := by rw [ar_91.rd hk, zSA_lo _ _ _ _ _ (by decide), t2]
  have g4 : zaI (zWd I (zSA A Pl Us Be Sa) t) 94 (nI p * 8 + nI a) = some (nI (zov n (U p) a)) := by
    show zaI _ _ (nI p * nI 8 + nI a) = _
    rw [pk_mul, nI_add, show p * 8 + a = 8 * p + a by omega, ar_94.rd (by omega), zSA_94, hB p a hp ha]
  refine eX9_canStand _ _ (bX9_canStand_0 _ _ ⟨_, fr_89_2.rd, _, g1, _, fr_89_4.rd, _, fr_89_0.rd, _, g2, _, g4, _, fr_89_1.rd, _, g3, ?_⟩)
  rw [zi_no (by omega) (by omega), zov_bit hU]
  cases zlt (U p) a b
  · rw [if_neg (by decide)]
    exact ⟨rfl, rfl⟩
  · rw [if_pos rfl]
    exact ⟨rfl, rfl⟩
theorem v_takeOut {Pl Us Be Sa : Nat → Int32} {k p : Nat} (hk : k < 56) (hp : p < 4) (hPl : Pl k = nI p) : zEv X 0 0 0 MX9_takeOut [.ref 89, .int (nI k)] (zWd I (zSA A Pl Us Be Sa) t) (fun v w1 => v = none ∧ ∃ Be', w1 = zWd I (zSA A Pl Us Be' Sa) t ∧ (∀ x, x < 8 → Be' (8 * p + x) = Sa (8 * k + x)) ∧ ∀ j, (j < 8 * p ∨ 8 * p + 8 ≤ j) → Be' j = Be j) := by
  have g1 : zaI (zWd I (zSA A Pl Us Be Sa) t) 92 (nI k) = some (nI p) := by rw [ar_92.rd hk, zSA_92, hPl]
  refine eX9_takeOut _ _ (bX9_takeOut_0 _ _ ⟨_, fr_89_2.rd, _, g1, ?_⟩)
  have e0 : nI p * 8 = nI (8 * p) := by
    show nI p * nI 8 = _
    rw [pk_mul, Nat.mul_comm]
  rw [e0]
  have key : ∀ x, x ≤ 8 → ∀ Be' : Nat → Int32, (∀ x', x' < x → Be' (8 * p + x') = Sa (8 * k + x')) → (∀ j, (j < 8 * p ∨ 8 * p + 8 ≤ j) → Be' j = Be j) → zRn X 0 0 0 MX9_takeOut 12 [some (.ref 89), some (.int (nI k)), some (.int (nI (8 * p))), some (.int (nI x))] [] (zWd I (zSA A Pl Us Be' Sa) t) (fun v w1 => v = none ∧ ∃ Be', w1 = zWd I (zSA A Pl Us Be' Sa) t ∧ (∀ x, x < 8 → Be' (8 * p + x) = Sa (8 * k + x)) ∧ ∀ j, (j < 8 * p ∨ 8 * p + 8 ≤ j) → Be' j = Be j) := by
    refine zdown ?_ ?_
    · intro Be' h1 h2
      refine bX9_takeOut_12 _ _ _ _ ?_
      rw [if_pos (by decide)]
      exact ⟨rfl, Be', rfl, h1, h2⟩
    · intro x hx ih Be' h1 h2
      refine bX9_takeOut_12 _ _ _ _ ?_
      show if nI 8 ≤ nI x then _ else _
      rw [zi_le (by omega) (by omega), if_neg (by omega)]
      refine ⟨_, fr_89_4.rd, _, fr_89_5.rd, Sa (8 * k + x), ?_, zWd I (zSA A Pl Us (upd Be' (8 * p + x) (Sa (8 * k + x))) Sa) t, ?_, ?_⟩
      · show zaI _ _ (nI k * nI 8 + nI x) = _
        rw [pk_mul, nI_add, show k * 8 + x = 8 * k + x by omega, ar_95.rd (by omega), zSA_95]
      · rw [nI_add, ar_94.wr (by omega), zSA_94, zSA_s94]
      · rw [nI_1]
        refine ih _ (fun x' hx' => ?_) (fun j hj => ?_)
        · by_cases e : x' = x
          · rw [e, upd_eq]
          · rw [upd_ne _ _ (by omega)]
            exact h1 x' (by omega)
        · rw [upd_ne _ _ (by omega)]
          exact h2 j hj
  exact key 0 (Nat.zero_le _) Be (fun x' hx' => absurd hx' (Nat.not_lt_zero _)) (fun _ _ => rfl)
theorem v_putIn (h : zOR I A q n u) (hT : zTw (A 90) (A 91) T) {Pl Us Be Sa : Nat → Int32} {U : Nat → Nat → Nat} {k a b p g : Nat} (hk : k < 56) (e : T[k]? = some (a, b)) (ha : a < n) (hb : b < n) (hab : a ≠ b) (hp : p < 4) (hg : g ≤ 4) (hPl : Pl k = nI p) (hUs : Us k = nI g) (hB : zBe Be n U) (hU : zPo n (U p)) (hc : zlt (U p) a b = false) : zEv X 1 0 0 MX9_putIn [.ref 89, .int (nI k), .ref q] (zWd I (zSA A Pl Us Be Sa) t) (fun v w1 => v = none ∧ ∃ Be' Sa', w1 = zWd I (zSA A Pl (upd Us (k + 1) (nI (max g (p + 1)))) Be' Sa') t ∧ (∀ x, x < 8 → Sa' (8 * k + x) = Be (8 * p + x)) ∧ (∀ j, j < 8 * k → Sa' j = Sa j) ∧ zBe Be' n (va_up U p (zln (U p) b a))) := by
  obtain ⟨t1, t2⟩ := hT k a b e
  have h8 := h.n8
  have h28 := z28 h8
  have l1 := zov_lt n (U p) a
  have ga : ∀ Be Sa : Nat → Int32, zaI (zWd I (zSA A Pl Us Be Sa) t) 90 (nI k) = some (nI a) := fun Be Sa => by rw [ar_90.rd hk, zSA_lo _ _ _ _ _ (by decide), t1]
  have gb : ∀ Be Sa : Nat → Int32, zaI (zWd I (zSA A Pl Us Be Sa) t) 91 (nI k) = some (nI b) := fun Be Sa => by rw [ar_91.rd hk, zSA_lo _ _ _ _ _ (by decide), t2]
  have gp : ∀ Be Sa : Nat → Int32, zaI (zWd I (zSA A Pl Us Be Sa) t) 92 (nI k) = some (nI p) := fun Be Sa => by rw [ar_92.rd hk, zSA_92, hPl]
  have g4 : zaI (zWd I (zSA A Pl Us Be Sa) t) 94 (nI p * 8 + nI a) = some (nI (zov n (U p) a)) := by
    show zaI _ _ (nI p * nI 8 + nI a) = _
    rw [pk_mul, nI_add, show p * 8 + a = 8 * p + a by omega, ar_94.rd (by omega), zSA_94, hB p a hp ha]
  refine eX9_putIn _ _ _ (bX9_putIn_0 _ _ _ ⟨_, fr_89_2.rd, _, gp _ _, _, fr_89_4.rd, _, fr_89_0.rd, _, ga _ _, _, g4, _, fr_89_0.rd, _, ga _ _, ?_⟩)
  have e0 : nI p * 8 = nI (8 * p) := by
    show nI p * nI 8 = _
    rw [pk_mul, Nat.mul_comm]
  rw [e0, zb_1 a (by omega), zb_or]
  generalize hla : zov n (U p) a ||| 2 ^ a = la
  have goal2 : ∀ Sa' : Nat → Int32, (∀ x, x < 8 → Sa' (8 * k + x) = Be (8 * p + x)) → (∀ j, j < 8 * k → Sa' j = Sa j) → ∀ x, x ≤ n → ∀ Be' : Nat → Int32, (∀ x', x' < x → Be' (8 * p + x') = nI (zov n (zln (U p) b a) x')) → (∀ x', x ≤ x' → Be' (8 * p + x') = Be (8 * p + x')) → (∀ j, (j < 8 * p ∨ 8 * p + 8 ≤ j) → Be' j = Be j) → zRn X 1 0 0 MX9_putIn 74 [some (.ref 89), some (.int (nI k)), some (.ref q), some (.int (nI (8 * p))), some (.int (nI la)), some (.int (nI x))] [] (zWd I (zSA A Pl Us Be' Sa') t) (fun v w1 => v = none ∧ ∃ Be' Sa', w1 = zWd I (zSA A Pl (upd Us (k + 1) (nI (max g (p + 1)))) Be' Sa') t ∧ (∀ x, x < 8 → Sa' (8 * k + x) = Be (8 * p + x)) ∧ (∀ j, j < 8 * k → Sa' j = Sa j) ∧ zBe Be' n (va_up U p (zln (U p) b a))) := by
    intro Sa' s1 s2
    refine zdown ?_ ?_
    · intro Be' b1 b2 b3
      have h0 := zSA_or h Pl Us Be' Sa'
      have gu : zaI (zWd I (zSA A Pl Us Be' Sa') t) 93 (nI k) = some (nI g) := by rw [ar_93.rd (by omega), zSA_93, hUs]
      refine bX9_putIn_74 _ _ _ _ _ _ (zvRd h0.1.ob (v_size h0) (by decide) ?_)
      rw [if_pos (Int32.le_refl _)]
      refine ⟨_, fr_89_3.rd, _, fr_89_3.rd, _, gu, _, fr_89_2.rd, _, gp _ _, by decide, zWd I (zSA A Pl (upd Us (k + 1) (nI (max g (p + 1)))) Be' Sa') t, ?_, rfl, Be', Sa', rfl, s1, s2, ?_⟩
      · rw [nI_1, nI_1, zi_lt (by omega) (by omega)]
        have em : (if g < p + 1 then nI (p + 1) else nI g) = nI (max g (p + 1)) := by
          split
          · rw [show max g (p + 1) = p + 1 by omega]
          · rw [show max g (p + 1) = g by omega]
        rw [em, ar_93.wr (by omega), zSA_93, zSA_s93]
      · intro p' x hp' hx
        by_cases ep : p' = p
        · subst ep
          rw [zup_eq]
          exact b1 x hx
        · rw [zup_ne ep, b3 _ (by omega)]
          exact hB p' x hp' hx
    · intro x hx ih Be' b1 b2 b3
      have h0 := zSA_or h Pl Us Be' Sa'
      have ez := zov_ln hU hb ha (fun z => hab z.symm) hc x
      have ox : Be' (8 * p + x) = nI (zov n (U p) x) := by
        rw [b2 x (Nat.le_refl _)]
        exact hB p x hp hx
      have gx : zaI (zWd I (zSA A Pl Us Be' Sa') t) 94 (nI (8 * p) + nI x) = some (nI (zov n (U p) x)) := by
        rw [nI_add, ar_94.rd (by omega), zSA_94, ox]
      have lx := zov_lt n (U p) x
      refine bX9_putIn_74 _ _ _ _ _ _ (zvRd h0.1.ob (v_size h0) (by decide) ?_)
      rw [zi_le (by omega) (by omega), if_neg (by omega)]
      refine ⟨_, fr_89_1.rd, _, gb _ _, ?_⟩
      rw [zi_eq (by omega) (by omega)]
      have take : (x = b ∨ zlt (U p) x b = true) → zRn X 1 0 0 MX9_putIn 116 [some (.ref 89), some (.int (nI k)), some (.ref q), some (.int (nI (8 * p))), some (.int (nI la)), some (.int (nI x))] [] (zWd I (zSA A Pl Us Be' Sa') t) (fun v w1 => v = none ∧ ∃ Be' Sa', w1 = zWd I (zSA A Pl (upd Us (k + 1) (nI (max g (p + 1)))) Be' Sa') t ∧ (∀ x, x < 8 → Sa' (8 * k + x) = Be (8 * p + x)) ∧ (∀ j, j < 8 * k → Sa' j = Sa j) ∧ zBe Be' n (va_up U p (zln (U p) b a))) := fun hx2 => by
        refine bX9_putIn_116 _ _ _ _ _ _ ⟨_, fr_89_4.rd, _, gx, zWd I (zSA A Pl Us (upd Be' (8 * p + x) (nI (zov n (zln (U p) b a) x))) Sa') t, ?_, ?_⟩
        · rw [zb_or, nI_add, ez, if_pos hx2, hla, ar_94.wr (by omega), zSA_94, zSA_s94]
        · refine bX9_putIn_130 _ _ _ _ _ _ ?_
          rw [nI_1]
          refine ih _ (fun x' hx' => ?_) (fun x' hx' => ?_) (fun j hj => ?_)
          · by_cases e2 : x' = x
            · rw [e2, upd_eq]
            · rw [upd_ne _ _ (by omega)]
              exact b1 x' (by omega)
          · rw [upd_ne _ _ (by omega)]
            exact b2 x' (by omega)
          · rw [upd_ne _ _ (by omega)]
            exact b3 j hj
      by_cases c1 : x = b
      · rw [if_pos c1]
        exact take (Or.inl c1)
      · rw [if_neg c1]
        refine ⟨_, fr_89_4.rd, _, gx, _, fr_89_1.rd, _, gb _ _, ?_⟩
        rw [zi_has (by omega) (by omega), zov_bit hU]
        by_cases c2 : zlt (U p) x b = true
        · rw [if_pos c2]
          exact take (Or.inr c2)
        · rw [if_neg c2]
          refine bX9_putIn_130 _ _ _ _ _ _ ?_
          rw [nI_1]
          refine ih Be' (fun x' hx' => ?_) (fun x' hx' => b2 x' (by omega)) b3
          by_cases e2 : x' = x
          · rw [e2, ox, ez, if_neg (fun z => z.elim c1 c2)]
          · exact b1 x' (by omega)
  have key : ∀ x, x ≤ 8 → ∀ Sa' : Nat → Int32, (∀ x', x' < x → Sa' (8 * k + x') = Be (8 * p + x')) → (∀ j, j < 8 * k → Sa' j = Sa j) → zRn X 1 0 0 MX9_putIn 37 [some (.ref 89), some (.int (nI k)), some (.ref q), some (.int (nI (8 * p))), some (.int (nI la)), some (.int (nI x))] [] (zWd I (zSA A Pl Us Be Sa') t) (fun v w1 => v = none ∧ ∃ Be' Sa', w1 = zWd I (zSA A Pl (upd Us (k + 1) (nI (max g (p + 1)))) Be' Sa') t ∧ (∀ x, x < 8 → Sa' (8 * k + x) = Be (8 * p + x)) ∧ (∀ j, j < 8 * k → Sa' j = Sa j) ∧ zBe Be' n (va_up U p (zln (U p) b a))) := by
    refine zdown ?_ ?_
    · intro Sa' s1 s2
      refine bX9_putIn_37 _ _ _ _ _ _ ?_
      rw [if_pos (by decide)]
      exact goal2 Sa' s1 s2 0 (Nat.zero_le _) Be (fun x' hx' => absurd hx' (Nat.not_lt_zero _)) (fun _ _ => rfl) (fun _ _ => rfl)
    · intro x hx ih Sa' s1 s2
      refine bX9_putIn_37 _ _ _ _ _ _ ?_
      show if nI 8 ≤ nI x then _ else _
      rw [zi_le (by omega) (by omega), if_neg (by omega)]
      refine ⟨_, fr_89_5.rd, _, fr_89_4.rd, Be (8 * p + x), ?_, zWd I (zSA A Pl Us Be (upd Sa' (8 * k + x) (Be (8 * p + x)))) t, ?_, ?_⟩
      · rw [nI_add, ar_94.rd (by omega), zSA_94]
      · show zsI _ _ (nI k * nI 8 + nI x) _ = _
        rw [pk_mul, nI_add, show k * 8 + x = 8 * k + x by omega, ar_95.wr (by omega), zSA_95, zSA_s95]
      · rw [nI_1]
        refine ih _ (fun x' hx' => ?_) (fun j hj => ?_)
        · by_cases e2 : x' = x
          · rw [e2, upd_eq]
          · rw [upd_ne _ _ (by omega)]
            exact s1 x' (by omega)
        · rw [upd_ne _ _ (by omega)]
          exact s2 j hj
  exact key 0 (Nat.zero_le _) Sa (fun x' hx' => absurd hx' (Nat.not_lt_zero _)) (fun _ _ => rfl)
set_option maxHeartbeats 2000000 in
theorem v_runL (h : zOR I A q n u) (hT : zTw (A 90) (A 91) T) (hI : I 89 6 = nI T.length) (hTl : T.length ≤ 56) (hTm : ∀ a b, (a, b) ∈ T → a < n ∧ b < n ∧ a ≠ b) {t4 tr : Nat} (ht4 : t4 ≤ 4) (htr : tr ≤ 100000) {Q : Option Value → zW → Prop} : ∀ (L : List (Nat × Nat)) (k : Nat), T.drop k = L → k ≤ T.length → ∀ (g c : Nat) (U : Nat → Nat → Nat), g ≤ 4 → (∀ p, zPo n (U p)) → c ≤ tr → ∀ (Pl Us Be Sa : Nat → Int32) (τ : Nat), Us k = nI g → (k < T.length → Pl k = -1) → zBe Be n U → τ + k ≤ 2 * c →
    ((zSe t4 tr L g c U).1 = 0 → ∀ (Pl' Us' Be' Sa' : Nat → Int32) (τ' : Nat), (∀ j, j < k → Pl' j = Pl j) → (∀ j, j ≤ k → Us' j = Us j) → (∀ j, j < 8 * k → Sa' j = Sa j) → zBe Be' n U → τ' + k ≤ 2 * (zSe t4 tr L g c U).2.1 → zRn X 4 0 0 MX9_run 88 [some (.ref 89), some (.ref q), some (.int (nI t4)), some (.int (nI tr)), some (.int (nI k)), some (.int (nI (zSe t4 tr L g c U).2.1)), some (.int (nI τ')), none] [] (zWd I (zSA A Pl' Us' Be' Sa') t) Q) →
    ((zSe t4 tr L g c U).1 = 1 → ∀ (Pl' Us' Be' Sa' : Nat → Int32), zBe Be' n (zSe t4 tr L g c U).2.2 → Q (some (.int (nI (zSe t4 tr L g c U).2.1))) (zWd I (zSA A Pl' Us' Be' Sa') t)) →
    ((zSe t4 tr L g c U).1 = 3 → ∀ (Pl' Us' Be' Sa' : Nat → Int32), Q (some (.int (-3))) (zWd I (zSA A Pl' Us' Be' Sa') t)) →
    zRn X 4 0 0 MX9_run 40 [some (.ref 89), some (.ref q), some (.int (nI t4)), some (.int (nI tr)), some (.int (nI k)), some (.int (nI c)), some (.int (nI τ)), none] [] (zWd I (zSA A Pl Us Be Sa) t) Q := by
  have h8 := h.n8
  have turn : ∀ (τ c k : Nat), c ≤ tr → τ + k ≤ 2 * c → ¬ ((2 : Int32) * nI tr + 1 < nI τ) := fun τ c k hc hτ => by
    have e : (2 : Int32) * nI tr + 1 = nI (2 * tr + 1) := by
      show nI 2 * nI tr + nI 1 = _
      rw [pk_mul, nI_add]
    rw [e, zb_lt (by omega) (by omega)]
    omega
  intro L
  induction L with
  | nil =>
    intro k hk hkl g c U hg hU hc Pl Us Be Sa τ hUs hPl hB hτ K0 K1 K3
    have e : k = T.length := by
      have := List.drop_eq_nil_iff.mp hk
      omega
    refine bX9_run_40 _ _ _ _ _ _ _ ?_
    rw [if_neg (turn τ c k hc hτ)]
    refine ⟨_, fi_89_6.rd, ?_⟩
    rw [hI, ← e, if_pos (Int32.le_refl _)]
    exact K1 rfl Pl Us Be Sa hB
  | cons ab L ih =>
    obtain ⟨a, b⟩ := ab
    intro k hk hkl g c U hg hU hc Pl Us Be Sa τ hUs hPl hB hτ K0 K1 K3
    have e1 : T[k]? = some (a, b) := by
      have := congrArg (fun l => l[0]?) hk
      simpa [List.getElem?_drop] using this
    have hkl : k < T.length := (List.getElem?_eq_some_iff.mp e1).1
    have hk1 : T.drop (k + 1) = L := by
      have := congrArg (List.drop 1) hk
      rw [List.drop_drop] at this
      simpa [Nat.add_comm] using this
    obtain ⟨ha, hb, hab⟩ := hTm a b (List.mem_of_getElem? e1)
    rw [zSe_c] at K0 K1 K3
    generalize hF : (fun p c => if zlt (U p) a b = true then (0, c, U) else zSe t4 tr L (max g (p + 1)) c (va_up U p (zln (U p) b a)) : Nat → Nat → zSR) = F at K0 K1 K3
    have hFb : ∀ p c, c ≤ tr → c ≤ (F p c).2.1 ∧ (F p c).2.1 ≤ tr ∧ ((F p c).1 = 0 ∨ (F p c).1 = 1 ∨ (F p c).1 = 3) := fun p c hc => by
      rw [← hF]
      by_cases z : zlt (U p) a b = true
      · have eq : (fun p c => if zlt (U p) a b = true then (0, c, U) else zSe t4 tr L (max g (p + 1)) c (va_up U p (zln (U p) b a)) : Nat → Nat → zSR) p c = (0, c, U) := if_pos z
        rw [eq]
        exact ⟨Nat.le_refl _, hc, Or.inl rfl⟩
      · have eq : (fun p c => if zlt (U p) a b = true then (0, c, U) else zSe t4 tr L (max g (p + 1)) c (va_up U p (zln (U p) b a)) : Nat → Nat → zSR) p c = zSe t4 tr L (max g (p + 1)) c (va_up U p (zln (U p) b a)) := if_neg z
        rw [eq]
        exact zSe_bd L _ c _ hc
    have loop : ∀ (j p c : Nat), p + j = min (g + 1) t4 → c ≤ tr → ∀ (Pl2 Us2 Be2 Sa2 : Nat → Int32) (τ : Nat), (∀ j, j < k → Pl2 j = Pl j) → (∀ j, j ≤ k → Us2 j = Us j) → (∀ j, j < 8 * k → Sa2 j = Sa j) → Pl2 k + 1 = nI p → zBe Be2 n U → τ + k ≤ 2 * c →
        ((zsl F tr U j p c).1 = 0 → ∀ (Pl' Us' Be' Sa' : Nat → Int32) (τ' : Nat), (∀ j, j < k → Pl' j = Pl j) → (∀ j, j ≤ k → Us' j = Us j) → (∀ j, j < 8 * k → Sa' j = Sa j) → zBe Be' n U → τ' + k ≤ 2 * (zsl F tr U j p c).2.1 → zRn X 4 0 0 MX9_run 88 [some (.ref 89), some (.ref q), some (.int (nI t4)), some (.int (nI tr)), some (.int (nI k)), some (.int (nI (zsl F tr U j p c).2.1)), some (.int (nI τ')), none] [] (zWd I (zSA A Pl' Us' Be' Sa') t) Q) →
        ((zsl F tr U j p c).1 = 1 → ∀ (Pl' Us' Be' Sa' : Nat → Int32), zBe Be' n (zsl F tr U j p c).2.2 → Q (some (.int (nI (zsl F tr U j p c).2.1))) (zWd I (zSA A Pl' Us' Be' Sa') t)) →
        ((zsl F tr U j p c).1 = 3 → ∀ (Pl' Us' Be' Sa' : Nat → Int32), Q (some (.int (-3))) (zWd I (zSA A Pl' Us' Be' Sa') t)) →
        zRn X 4 0 0 MX9_run 40 [some (.ref 89), some (.ref q), some (.int (nI t4)), some (.int (nI tr)), some (.int (nI k)), some (.int (nI c)), some (.int (nI τ)), none] [] (zWd I (zSA A Pl2 Us2 Be2 Sa2) t) Q := by
      intro j
      induction j with
      | zero =>
        intro p c hpj hc Pl2 Us2 Be2 Sa2 τ hp1 hu1 hs1 hpk hB2 hτ k0 k1 k3
        rw [zsl_0] at k0
        have hUk : Us2 k = nI g := by rw [hu1 k (Nat.le_refl _)]; exact hUs
        refine bX9_run_40 _ _ _ _ _ _ _ ?_
        rw [if_neg (turn τ c k hc hτ)]
        refine ⟨_, fi_89_6.rd, ?_⟩
        rw [hI, zi_le (by omega) (by omega), if_neg (by omega)]
        refine ⟨_, fr_89_2.rd, _, ar_92.rd (by omega), _, fr_89_3.rd, _, ar_93.rd (by omega), ?_⟩
        rw [zSA_92, zSA_93, hpk, hUk, zi_lt (by omega) (by omega)]
        by_cases c1 : g < p
        · rw [if_pos c1]
          exact k0 rfl Pl2 Us2 Be2 Sa2 τ hp1 hu1 hs1 hB2 hτ
        · rw [if_neg c1, zi_lt (by omega) (by omega), if_neg (by omega)]
          exact k0 rfl Pl2 Us2 Be2 Sa2 τ hp1 hu1 hs1 hB2 hτ
      | succ j jh =>
        intro p c hpj hc Pl2 Us2 Be2 Sa2 τ hp1 hu1 hs1 hpk hB2 hτ k0 k1 k3
        rw [zsl_s] at k0 k1 k3
        have hUk : Us2 k = nI g := by rw [hu1 k (Nat.le_refl _)]; exact hUs
        refine bX9_run_40 _ _ _ _ _ _ _ ?_
        rw [if_neg (turn τ c k hc hτ)]
        refine ⟨_, fi_89_6.rd, ?_⟩
        rw [hI, zi_le (by omega) (by omega), if_neg (by omega)]
        refine ⟨_, fr_89_2.rd, _, ar_92.rd (by omega), _, fr_89_3.rd, _, ar_93.rd (by omega), ?_⟩
        rw [zSA_92, zSA_93, hpk, hUk, zi_lt (by omega) (by omega), if_neg (by omega), zi_lt (by omega) (by omega), if_pos (by omega), zi_eq (by omega) (by omega)]
        by_cases hct : c = tr
        · rw [if_pos hct]
          rw [if_pos hct] at k3
          exact k3 rfl Pl2 Us2 Be2 Sa2
        · rw [if_neg hct]
          rw [if_neg hct] at k0 k1 k3
          refine ⟨_, fr_89_2.rd, zWd I (zSA A (upd Pl2 k (nI p)) Us2 Be2 Sa2) t, ?_, ?_⟩
          · rw [ar_92.wr (by omega), zSA_92, zSA_s92]
          · have hp2 : ∀ j, j < k → upd Pl2 k (nI p) j = Pl j := fun j hj => by
              rw [upd_ne _ _ (by omega)]
              exact hp1 j hj
            refine zvRd ob_89 (v_canStand (T := T) hT (by omega) e1 ha hb (p := p) (by omega) (upd_eq _ _ _) hB2 (hU p)) (by decide) ?_
            rw [zB_if]
            cases hz : zlt (U p) a b
            · rw [if_pos (show (!false) = true from rfl)]
              have eF : F p (c + 1) = zSe t4 tr L (max g (p + 1)) (c + 1) (va_up U p (zln (U p) b a)) := by
                rw [← hF]
                show (if zlt (U p) a b = true then ((0, c + 1, U) : zSR) else _) = _
                rw [hz, if_neg (by decide)]
              rw [eF] at k0 k1 k3
              have hFb2 := hFb p (c + 1) (by omega)
              rw [eF] at hFb2
              refine zvV ob_89 (v_putIn h hT (T := T) (by omega) e1 ha hb hab (p := p) (by omega) hg (upd_eq _ _ _) hUk hB2 (hU p) hz) (by decide) ?_
              rintro w1 ⟨Be3, Sa3, rfl, s31, s32, hB3⟩
              have hU3 : ∀ p', zPo n (va_up U p (zln (U p) b a) p') := fun p' => by
                by_cases e : p' = p
                · rw [e, zup_eq]
                  exact zln_po (hU p) hb ha (fun z => hab z.symm) hz
                · rw [zup_ne e]
                  exact hU p'
              have us3 : ∀ j, j ≤ k → upd Us2 (k + 1) (nI (max g (p + 1))) j = Us j := fun j hj => by
                rw [upd_ne _ _ (by omega)]
                exact hu1 j hj
              have go : ∀ Pl3 : Nat → Int32, (∀ j, j < k + 1 → Pl3 j = upd Pl2 k (nI p) j) → (k + 1 < T.length → Pl3 (k + 1) = -1) → zRn X 4 0 0 MX9_run 164 [some (.ref 89), some (.ref q), some (.int (nI t4)), some (.int (nI tr)), some (.int (nI k + 1)), some (.int (nI c + 1)), some (.int (nI τ)), none] [] (zWd I (zSA A Pl3 (upd Us2 (k + 1) (nI (max g (p + 1)))) Be3 Sa3) t) Q := fun Pl3 q1 q2 => by
                refine bX9_run_164 _ _ _ _ _ _ _ ?_
                rw [nI_1, nI_1, nI_1]
                refine ih (k + 1) hk1 (by omega) (max g (p + 1)) (c + 1) _ (by omega) hU3 (by omega) Pl3 _ Be3 Sa3 (τ + 1) (upd_eq _ _ _) q2 hB3 (by omega) ?_ ?_ ?_
                · intro z0 Pl' Us' Be' Sa' τ' r1 r2 r3 r4 r5
                  rw [if_pos z0] at k0 k1 k3
                  refine bX9_run_88 _ _ _ _ _ _ _ ?_
                  have em : nI (k + 1) - 1 = nI k := by
                    show nI (k + 1) - nI 1 = nI k
                    rw [pk_sub (by omega)]
                    rfl
                  have ek : Pl' k = nI p := by rw [r1 k (by omega), q1 k (by omega), upd_eq]
                  rw [em, if_pos (nI_pos' (by omega))]
                  refine zvV ob_89 (v_takeOut (by omega) (p := p) (by omega) ek) (by decide) ?_
                  rintro w2 ⟨Be4, rfl, t1, t2⟩
                  refine bX9_run_164 _ _ _ _ _ _ _ ?_
                  rw [nI_1]
                  refine jh (p + 1) _ (by omega) (by omega) Pl' Us' Be4 Sa' (τ' + 1) (fun j hj => ?_) (fun j hj => ?_) (fun j hj => ?_) (by rw [ek, nI_1]) (fun p' x hp' hx => ?_) (by omega) k0 k1 k3
                  · rw [r1 j (by omega), q1 j (by omega)]
                    exact hp2 j hj
                  · rw [r2 j (by omega)]
                    exact us3 j hj
                  · rw [r3 j (by omega), s32 j hj]
                    exact hs1 j hj
                  · by_cases e : p' = p
                    · subst e
                      rw [t1 x (by omega), r3 _ (by omega), s31 x (by omega)]
                      exact hB2 p' x hp' hx
                    · rw [t2 _ (by omega)]
                      have := r4 p' x hp' hx
                      rw [zup_ne e] at this
                      exact this
                · intro z1
                  rw [if_neg (by omega)] at k1
                  exact k1 z1
                · intro z3
                  rw [if_neg (by omega)] at k3
                  exact k3 z3
              refine ⟨_, fi_89_6.rd, ?_⟩
              rw [hI, nI_1, zi_le (by omega) (by omega)]
              by_cases c5 : T.length ≤ k + 1
              · rw [if_pos c5]
                have g5 := go (upd Pl2 k (nI p)) (fun _ _ => rfl) (fun z => by omega)
                rw [nI_1] at g5
                exact g5
              · rw [if_neg c5]
                refine ⟨_, fr_89_2.rd, zWd I (zSA A (upd (upd Pl2 k (nI p)) (k + 1) (-1)) (upd Us2 (k + 1) (nI (max g (p + 1)))) Be3 Sa3) t, ?_, ?_⟩
                · rw [ar_92.wr (by omega), zSA_92, zSA_s92]
                · have g5 := go (upd (upd Pl2 k (nI p)) (k + 1) (-1)) (fun j hj => upd_ne _ _ (by omega)) (fun _ => upd_eq _ _ _)
                  rw [nI_1] at g5
                  exact g5
            · rw [if_neg (by decide)]
              have eF : F p (c + 1) = (0, c + 1, U) := by
                rw [← hF]
                show (if zlt (U p) a b = true then ((0, c + 1, U) : zSR) else _) = _
                rw [hz, if_pos rfl]
              rw [eF, if_pos rfl] at k0 k1 k3
              refine bX9_run_164 _ _ _ _ _ _ _ ?_
              rw [nI_1, nI_1]
              exact jh (p + 1) (c + 1) (by omega) (by omega) _ Us2 Be2 Sa2 (τ + 1) hp2 hu1 hs1 (by rw [upd_eq, nI_1]) hB2 (by omega) k0 k1 k3
    refine loop (min (g + 1) t4) 0 c (by omega) hc Pl Us Be Sa τ (fun _ _ => rfl) (fun _ _ => rfl) (fun _ _ => rfl) ?_ hB hτ K0 K1 K3
    rw [hPl hkl]
    decide
theorem v_search (h : zOR I A q n u) {t4 tr : Nat} (ht4 : t4 ≤ 4) (htr : tr ≤ 100000) : zEv X 4 0 0 MX9_run [.ref 89, .ref q, .int (nI t4), .int (nI tr)] (zWd I A t) (fun v w1 => v = some (.int (zRV (zSe t4 tr (zCT n u) 0 0 (fun _ => u)))) ∧ ∃ F G Pl Us Be Sa, w1 = zWd (zIg I (nI (zCT n u).length)) (zSA (zTA A F G) Pl Us Be Sa) t ∧ ((zSe t4 tr (zCT n u) 0 0 (fun _ => u)).1 = 1 → zBe Be n (zSe t4 tr (zCT n u) 0 0 (fun _ => u)).2.2)) := by
  have h8 := h.n8
  have h56 := zCT_56 (u := u) h8
  refine eX9_run _ _ _ _ (bX9_run_0 _ _ _ _ (zvV ob_89 (v_collect h) (by decide) ?_))
  rintro w1 ⟨F, G, rfl, hT⟩
  have h1 := zTA_or h (nI (zCT n u).length) F G
  have hI2 := zIg_e I (nI (zCT n u).length)
  have hsp := v_startPlaces (X := X) (t := t) h1 (zTA A F G 92) (zTA A F G 93) (zTA A F G 94) (zTA A F G 95)
  rw [zSA_id] at hsp
  refine zvV ob_89 hsp (by decide) ?_
  rintro w2 ⟨Be, rfl, hB⟩
  generalize hPl : zTA A F G 92 = Pl
  generalize hUs : zTA A F G 93 = Us
  generalize hSa : zTA A F G 95 = Sa
  have hT2 : zTw (zTA A F G 90) (zTA A F G 91) (zCT n u) := by
    rw [zTA_90, zTA_91]
    exact hT
  have hmem : ∀ a b, (a, b) ∈ zCT n u → a < n ∧ b < n ∧ a ≠ b := fun a b hab => by
    obtain ⟨m1, m2, m3⟩ := zCT_mem hab
    exact ⟨m1, m2, zcr_ne m3⟩
  generalize hr : zSe t4 tr (zCT n u) 0 0 (fun _ => u) = r
  have hbd := zSe_bd (t := t4) (tr := tr) (zCT n u) 0 0 (fun _ => u) (Nat.zero_le _)
  rw [hr] at hbd
  have go : ∀ Pl : Nat → Int32, (0 < (zCT n u).length → Pl 0 = -1) → zRn X 4 0 0 MX9_run 37 [some (.ref 89), some (.ref q), some (.int (nI t4)), some (.int (nI tr)), some (.int 0), some (.int 0), none, none] [] (zWd (zIg I (nI (zCT n u).length)) (zSA (zTA A F G) Pl (upd Us 0 0) Be Sa) t) (fun v w1 => v = some (.int (zRV r)) ∧ ∃ F G Pl Us Be Sa, w1 = zWd (zIg I (nI (zCT n u).length)) (zSA (zTA A F G) Pl Us Be Sa) t ∧ (r.1 = 1 → zBe Be n r.2.2)) := fun Pl hPl => by
    refine bX9_run_37 _ _ _ _ _ _ ?_
    refine v_runL (k := 0) h1 hT2 hI2 h56 hmem ht4 htr (zCT n u) rfl (Nat.zero_le _) 0 0 (fun _ => u) (by decide) (fun _ => h.2.1) (Nat.zero_le _) Pl (upd Us 0 0) Be Sa 0 (upd_eq _ _ _) hPl hB (Nat.le_refl _) ?_ ?_ ?_
    · rw [hr]
      intro z0 Pl' Us' Be' Sa' τ' _ _ _ _ _
      refine bX9_run_88 _ _ _ _ _ _ _ ?_
      rw [if_neg (by decide)]
      refine ⟨?_, F, G, Pl', Us', Be', Sa', rfl, fun z1 => by omega⟩
      unfold zRV
      rw [if_pos z0]
    · rw [hr]
      intro z1 Pl' Us' Be' Sa' hB'
      refine ⟨?_, F, G, Pl', Us', Be', Sa', rfl, fun _ => hB'⟩
      unfold zRV
      rw [if_neg (by omega), if_pos z1]
    · rw [hr]
      intro z3 Pl' Us' Be' Sa'
      refine ⟨?_, F, G, Pl', Us', Be', Sa', rfl, fun z1 => by omega⟩
      unfold zRV
      rw [if_neg (by omega), if_neg (by omega)]
  refine ⟨_, fr_89_3.rd, zWd (zIg I (nI (zCT n u).length)) (zSA (zTA A F G) Pl (upd Us 0 0) Be Sa) t, ?_, _, fi_89_6.rd, ?_⟩
  · show zsI _ _ (nI 0) _ = _
    rw [ar_93.wr (by decide), zSA_93, zSA_s93]
  · rw [hI2]
    show if nI _ ≤ nI 0 then _ else _
    rw [zi_le (by omega) (by decide)]
    by_cases c0 : (zCT n u).length ≤ 0
    · rw [if_pos c0]
      exact go Pl (fun z => by omega)
    · rw [if_neg c0]
      refine ⟨_, fr_89_2.rd, zWd (zIg I (nI (zCT n u).length)) (zSA (zTA A F G) (upd Pl 0 (-1)) (upd Us 0 0) Be Sa) t, ?_, ?_⟩
      · show zsI _ _ (nI 0) _ = _
        rw [ar_92.wr (by decide), zSA_92, zSA_s92]
      · exact go _ (fun _ => upd_eq _ _ _)
end ZRu
