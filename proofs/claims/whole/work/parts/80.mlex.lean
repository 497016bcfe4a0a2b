/-! ===== told: the model's tokens ===== -/
def zMt (T : zBy) (I A : zF2) : Prop := T.1 ≤ 400 ∧ I 98 5 = nI T.1 ∧ ∀ i, i < T.1 → A 102 i = nI (T.2 i) ∧ T.2 i < 256
def zF8 (I I' : zF2) : Prop := (∀ p, p ≠ 98 → I' p = I p) ∧ ∀ k, (k < 8 ∨ 12 ≤ k) → I' 98 k = I 98 k
theorem zF8.refl (I : zF2) : zF8 I I := ⟨fun _ _ => rfl, fun _ _ => rfl⟩
theorem zF8.trans {I I' I2 : zF2} (h : zF8 I I') (g : zF8 I' I2) : zF8 I I2 := ⟨fun p hp => (g.1 p hp).trans (h.1 p hp), fun k hk => (g.2 k hk).trans (h.2 k hk)⟩
theorem zF8.w {I I' : zF2} (h : zF8 I I') {k : Nat} (hk : 8 ≤ k ∧ k < 12) (x : Int32) : zF8 I (zIf I' k x) := ⟨fun p hp => (zup_ne hp).trans (h.1 p hp), fun j hj => (zIf_ne I' x (by omega)).trans (h.2 j hj)⟩
theorem zF8.mt {I I' A : zF2} {T : zBy} (h : zF8 I I') (g : zMt T I A) : zMt T I' A := ⟨g.1, by rw [h.2 5 (by decide)]; exact g.2.1, g.2.2⟩
def zCq (k s e v : Nat) (I : zF2) : Prop := I 98 10 = nI k ∧ I 98 9 = nI s ∧ I 98 8 = nI e ∧ I 98 11 = nI v
def zCm (T : zBy) (tk : zTok) (I : zF2) : Prop := zCq tk.1 tk.2.1 tk.2.2 (zva T tk) I
section ZMx
variable {X : zX} {I A I0 : zF2} {t : zW} {T : zBy}
theorem m_isAt (hT : zMt T I A) {i lo hi : Nat} (h8 : I 98 8 = nI i) (hN : i ≤ T.1) (hlo : lo < 256) (hhi : hi < 256) : zRd X 1 MX12_isAt [.ref 98, .int (nI lo), .int (nI hi)] (zWd I A t) (zB (decide (i < T.1) && zlo T.2 lo hi i)) := by
  obtain ⟨t1, t2, t3⟩ := hT
  refine eX12_isAt _ _ _ (bX12_isAt_0 _ _ _ ⟨_, fi_98_8.rd, _, fi_98_5.rd, ?_⟩)
  rw [h8, t2, zi_le (by omega) (by omega)]
  by_cases c : T.1 ≤ i
  · rw [if_pos c, decide_eq_false (by omega), Bool.false_and]
    exact ⟨rfl, rfl⟩
  · have hb := (t3 i (by omega)).2
    rw [if_neg c, decide_eq_true (by omega), Bool.true_and]
    refine ⟨_, fr_98_4.rd, _, fi_98_8.rd, nI (T.2 i), ?_, zcRd (m_inB rfl rfl (nI (T.2 i))) (by decide) ?_⟩
    · rw [h8, ar_102.rd (by omega), (t3 i (by omega)).1]
    · have e : zbt (nI lo) (nI hi) (nI (T.2 i)) = zlo T.2 lo hi i := by
        unfold zbt zlo
        refine decide_eq_decide.mpr ?_
        rw [zb_lt (by omega) (by omega), zb_lt (by omega) (by omega)]
        omega
      rw [e]
      cases zlo T.2 lo hi i with
      | true => exact ⟨rfl, rfl⟩
      | false => exact ⟨rfl, rfl⟩
theorem m_word (hT : zMt T I0 A) {s e : Nat} : ∀ j, j ≤ T.1 → ∀ I, zF8 I0 I → zCq 1 s j 0 I → zre (zlo T.2 97 122) T.1 j = e → zRn X 3 0 0 MX12_next 83 [some (.ref 98)] [] (zWd I A t) (fun v w1 => v = none ∧ ∃ I', w1 = zWd I' A t ∧ zCq 1 s e 0 I' ∧ zF8 I0 I') := by
  refine zdown ?_ ?_
  · intro I hF hq he
    refine bX12_next_83 _ (zvRd ob_98 (m_isAt (lo := 97) (hi := 122) (hF.mt hT) hq.2.2.1 (Nat.le_refl _) (by decide) (by decide)) (by decide) ?_)
    rw [decide_eq_false (Nat.lt_irrefl _), Bool.false_and, zB_f rfl]
    rw [zre_n (by omega)] at he
    subst he
    exact ⟨rfl, I, rfl, hq, hF⟩
  · intro j hj ih I hF hq he
    refine bX12_next_83 _ (zvRd ob_98 (m_isAt (lo := 97) (hi := 122) (hF.mt hT) hq.2.2.1 (by omega) (by decide) (by decide)) (by decide) ?_)
    rw [decide_eq_true hj, Bool.true_and]
    by_cases c : zlo T.2 97 122 j = true
    · rw [zB_t c]
      refine ⟨_, fi_98_8.rd, _, fi_98_8.wr, ?_⟩
      rw [hq.2.2.1, nI_1]
      refine ih _ (hF.w (by decide) _) ⟨(zIf_ne I _ (by decide)).trans hq.1, (zIf_ne I _ (by decide)).trans hq.2.1, zIf_eq I _ _, (zIf_ne I _ (by decide)).trans hq.2.2.2⟩ ?_
      rw [← he, zre_y hj c]
    · rw [Bool.not_eq_true] at c
      rw [zB_f c]
      rw [zre_n (by rw [c]; simp)] at he
      subst he
      exact ⟨rfl, I, rfl, hq, hF⟩
theorem m_digits (hT : zMt T I0 A) {s e : Nat} : ∀ j, j ≤ T.1 → ∀ I, s ≤ j → zF8 I0 I → zCq 2 s j (zvl T s (j - s)) I → zre (zlo T.2 48 57) T.1 j = e → zRn X 3 0 0 MX12_next 123 [some (.ref 98)] [] (zWd I A t) (fun v w1 => v = none ∧ ∃ I', w1 = zWd I' A t ∧ zCq 2 s e (zvl T s (e - s)) I' ∧ zF8 I0 I') := by
  have t1 := hT.1
  refine zdown ?_ ?_
  · intro I hs hF hq he
    refine bX12_next_123 _ (zvRd ob_98 (m_isAt (lo := 48) (hi := 57) (hF.mt hT) hq.2.2.1 (Nat.le_refl _) (by decide) (by decide)) (by decide) ?_)
    rw [decide_eq_false (Nat.lt_irrefl _), Bool.false_and, zB_f rfl]
    rw [zre_n (by omega)] at he
    subst he
    exact ⟨rfl, I, rfl, hq, hF⟩
  · intro j hj ih I hs hF hq he
    refine bX12_next_123 _ (zvRd ob_98 (m_isAt (lo := 48) (hi := 57) (hF.mt hT) hq.2.2.1 (by omega) (by decide) (by decide)) (by decide) ?_)
    rw [decide_eq_true hj, Bool.true_and]
    by_cases c : zlo T.2 48 57 j = true
    · rw [zB_t c]
      have cb := of_decide_eq_true c
      have hv := zvl_le T s (j - s)
      refine ⟨_, fi_98_11.rd, _, fr_98_4.rd, _, fi_98_8.rd, nI (T.2 j), ?_, by decide, ?_⟩
      · rw [hq.2.2.1, ar_102.rd (by omega), (hT.2.2 j hj).1]
      · rw [hq.2.2.2]
        have e1 : (10 : Int32) * nI (zvl T s (j - s)) + nI (T.2 j) - 48 = nI (10 * zvl T s (j - s) + T.2 j - 48) := by
          show nI 10 * nI _ + nI _ - nI 48 = _
          rw [pk_mul, nI_add, pk_sub (by omega)]
        have e2 : zvl T s (j + 1 - s) = if 1000 < 10 * zvl T s (j - s) + T.2 j - 48 then 1000 else 10 * zvl T s (j - s) + T.2 j - 48 := by
          rw [show j + 1 - s = (j - s) + 1 by omega]
          show (if 1000 < 10 * zvl T s (j - s) + T.2 (s + (j - s)) - 48 then 1000 else _) = _
          rw [show s + (j - s) = j by omega]
        have e3 : (if nI (10 * zvl T s (j - s) + T.2 j - 48) < 1000 then nI (10 * zvl T s (j - s) + T.2 j - 48) else 1000) = nI (zvl T s (j + 1 - s)) := by
          show (if _ < nI 1000 then _ else nI 1000) = _
          rw [zi_lt (by omega) (by decide), e2]
          by_cases q : 10 * zvl T s (j - s) + T.2 j - 48 < 1000
          · rw [if_pos q, if_neg (by omega)]
          · rw [if_neg q]
            by_cases q2 : 1000 < 10 * zvl T s (j - s) + T.2 j - 48
            · rw [if_pos q2]
            · rw [if_neg q2]
              exact congrArg nI (by omega)
        rw [e1, e3]
        refine ⟨_, fi_98_11.wr, _, fi_98_8.rd, _, fi_98_8.wr, ?_⟩
        have e4 : va_up I 98 (upd (I 98) 11 (nI (zvl T s (j + 1 - s)))) 98 8 = nI j := (zIf_ne I _ (by decide)).trans hq.2.2.1
        rw [e4, nI_1]
        refine ih _ (by omega) ((hF.w (k := 11) (by decide) _).w (k := 8) (by decide) _) ⟨(zIf_ne _ _ (by decide)).trans ((zIf_ne I _ (by decide)).trans hq.1), (zIf_ne _ _ (by decide)).trans ((zIf_ne I _ (by decide)).trans hq.2.1), zIf_eq _ _ _, (zIf_ne _ _ (by decide)).trans (zIf_eq I _ _)⟩ ?_
        rw [← he, zre_y hj c]
    · rw [Bool.not_eq_true] at c
      rw [zB_f c]
      rw [zre_n (by rw [c]; simp)] at he
      subst he
      exact ⟨rfl, I, rfl, hq, hF⟩
theorem m_next (hT : zMt T I0 A) {i : Nat} (hi : I0 98 8 = nI i) (hN : i ≤ T.1) : zEv X 3 0 0 MX12_next [.ref 98] (zWd I0 A t) (fun v w1 => v = none ∧ ∃ I', w1 = zWd I' A t ∧ zCm T (zLex T i) I' ∧ zF8 I0 I') := by
  have t1 := hT.1
  obtain ⟨z1, z2, -⟩ := zre_all (p := zbl T.2) (N := T.1) i hN
  have fin : ∀ I, zF8 I0 I → I 98 8 = nI (zre (zbl T.2) T.1 i) → ∃ x5, zfI (zWd I A t) 98 11 8 = some x5 ∧ (∃ w6, zsF (zWd I A t) 98 11 9 (.int x5) = some w6 ∧ (∃ w7, zsF w6 98 11 11 (.int 0) = some w7 ∧ (∃ x8, zfI w7 98 11 8 = some x8 ∧ (∃ x9, zfI w7 98 11 5 = some x9 ∧ (if x8 = x9 then (∃ w19, zsF w7 98 11 10 (.int 0) = some w19 ∧ ((none : Option Value) = none ∧ ∃ I', w19 = zWd I' A t ∧ zCm T (zLex T i) I' ∧ zF8 I0 I')) else (zIs w7 98 11 ∧ zCallI X 3 MX12_isAt [.ref 98, .int 97, .int 122] w7 (fun x11 w10 => if x11 = 0 then (zIs w10 98 11 ∧ zCallI X 3 MX12_isAt [.ref 98, .int 48, .int 57] w10 (fun x13 w12 => if x13 = 0 then (∃ w14, zsF w12 98 11 10 (.int 3) = some w14 ∧ (∃ x15, zfI w14 98 11 8 = some x15 ∧ (∃ w16, zsF w14 98 11 8 (.int (x15 + 1)) = some w16 ∧ ((none : Option Value) = none ∧ ∃ I', w16 = zWd I' A t ∧ zCm T (zLex T i) I' ∧ zF8 I0 I')))) else (∃ w17, zsF w12 98 11 10 (.int 2) = some w17 ∧ (zRn X 3 0 0 MX12_next 123 [some (.ref 98)] [] w17 (fun v w1 => v = none ∧ ∃ I', w1 = zWd I' A t ∧ zCm T (zLex T i) I' ∧ zF8 I0 I'))))) else (∃ w18, zsF w10 98 11 10 (.int 1) = some w18 ∧ (zRn X 3 0 0 MX12_next 83 [some (.ref 98)] [] w18 (fun v w1 => v = none ∧ ∃ I', w1 = zWd I' A t ∧ zCm T (zLex T i) I' ∧ zF8 I0 I')))))))))) := by
    intro I hF h8
    unfold zLex
    generalize zre (zbl T.2) T.1 i = s at z1 z2 h8
    refine ⟨_, fi_98_8.rd, _, fi_98_9.wr, _, fi_98_11.wr, _, fi_98_8.rd, _, fi_98_5.rd, ?_⟩
    rw [h8]
    generalize hI2 : va_up (va_up I 98 (upd (I 98) 9 (nI s))) 98 (upd (va_up I 98 (upd (I 98) 9 (nI s)) 98) 11 0) = I2
    have hF2 : zF8 I0 I2 := by
      rw [← hI2]
      exact (hF.w (k := 9) (by decide) _).w (k := 11) (by decide) _
    have f8 : I2 98 8 = nI s := by
      rw [← hI2]
      exact (zIf_ne _ _ (by decide)).trans ((zIf_ne I _ (by decide)).trans h8)
    have f9 : I2 98 9 = nI s := by
      rw [← hI2]
      exact (zIf_ne _ _ (by decide)).trans (zIf_eq I _ _)
    have f11 : I2 98 11 = nI 0 := by
      rw [← hI2]
      exact zIf_eq _ _ _
    have hT2 := hF2.mt hT
    rw [f8, hT2.2.1, zi_eq (by omega) (by omega)]
    by_cases c : T.1 ≤ s
    · rw [if_pos (show s = T.1 by omega), if_pos c]
      exact ⟨_, fi_98_10.wr, rfl, _, rfl, ⟨zIf_eq _ _ _, (zIf_ne _ _ (by decide)).trans f9, (zIf_ne _ _ (by decide)).trans f8, (zIf_ne _ _ (by decide)).trans f11⟩, hF2.w (by decide) _⟩
    · rw [if_neg (show ¬ s = T.1 by omega), if_neg c]
      refine zvRd ob_98 (m_isAt (lo := 97) (hi := 122) hT2 f8 (by omega) (by decide) (by decide)) (by decide) ?_
      rw [decide_eq_true (show s < T.1 by omega), Bool.true_and]
      by_cases c1 : zlo T.2 97 122 s = true
      · rw [zB_t c1, if_pos c1]
        exact ⟨_, fi_98_10.wr, m_word hT s (by omega) _ (hF2.w (by decide) _) ⟨zIf_eq _ _ _, (zIf_ne _ _ (by decide)).trans f9, (zIf_ne _ _ (by decide)).trans f8, (zIf_ne _ _ (by decide)).trans f11⟩ rfl⟩
      · rw [if_neg c1]
        rw [Bool.not_eq_true] at c1
        rw [zB_f c1]
        refine zvRd ob_98 (m_isAt (lo := 48) (hi := 57) hT2 f8 (by omega) (by decide) (by decide)) (by decide) ?_
        rw [decide_eq_true (show s < T.1 by omega), Bool.true_and]
        by_cases c2 : zlo T.2 48 57 s = true
        · rw [zB_t c2, if_pos c2]
          refine ⟨_, fi_98_10.wr, m_digits hT s (by omega) _ (Nat.le_refl _) (hF2.w (by decide) _) ⟨zIf_eq _ _ _, (zIf_ne _ _ (by decide)).trans f9, (zIf_ne _ _ (by decide)).trans f8, (zIf_ne _ _ (by decide)).trans ?_⟩ rfl⟩
          rw [Nat.sub_self]
          exact f11
        · rw [if_neg c2]
          rw [Bool.not_eq_true] at c2
          rw [zB_f c2]
          refine ⟨_, fi_98_10.wr, _, fi_98_8.rd, _, fi_98_8.wr, rfl, _, rfl, ⟨(zIf_ne _ _ (by decide)).trans (zIf_eq _ _ _), (zIf_ne _ _ (by decide)).trans ((zIf_ne _ _ (by decide)).trans f9), ?_, (zIf_ne _ _ (by decide)).trans ((zIf_ne _ _ (by decide)).trans f11)⟩, (hF2.w (k := 10) (by decide) _).w (k := 8) (by decide) _⟩
          refine (zIf_eq _ _ _).trans ?_
          have e4 : va_up I2 98 (upd (I2 98) 10 3) 98 8 = nI s := (zIf_ne I2 _ (by decide)).trans f8
          rw [e4, nI_1]
  have key : ∀ j, j ≤ T.1 → ∀ I, zF8 I0 I → I 98 8 = nI j → zre (zbl T.2) T.1 j = zre (zbl T.2) T.1 i → zRn X 3 0 0 MX12_next 0 [some (.ref 98)] [] (zWd I A t) (fun v w1 => v = none ∧ ∃ I', w1 = zWd I' A t ∧ zCm T (zLex T i) I' ∧ zF8 I0 I') := by
    refine zdown ?_ ?_
    · intro I hF h8 e
      rw [zre_n (by omega)] at e
      refine bX12_next_0 _ (zvRd ob_98 (m_isAt (lo := 32) (hi := 32) (hF.mt hT) h8 (by omega) (by decide) (by decide)) (by decide) ?_)
      rw [decide_eq_false (Nat.lt_irrefl _), Bool.false_and, zB_f rfl]
      refine zvRd ob_98 (m_isAt (lo := 10) (hi := 10) (hF.mt hT) h8 (by omega) (by decide) (by decide)) (by decide) ?_
      rw [decide_eq_false (Nat.lt_irrefl _), Bool.false_and, zB_f rfl]
      rw [e] at h8
      exact fin I hF h8
    · intro j hj ih I hF h8 e
      have step : zbl T.2 j = true → zRn X 3 0 0 MX12_next 22 [some (.ref 98)] [] (zWd I A t) (fun v w1 => v = none ∧ ∃ I', w1 = zWd I' A t ∧ zCm T (zLex T i) I' ∧ zF8 I0 I') := fun hb => by
        refine bX12_next_22 _ ⟨_, fi_98_8.rd, _, fi_98_8.wr, ?_⟩
        rw [h8, nI_1]
        refine ih _ (hF.w (by decide) _) (zIf_eq I _ _) ?_
        rw [← e, zre_y hj hb]
      refine bX12_next_0 _ (zvRd ob_98 (m_isAt (lo := 32) (hi := 32) (hF.mt hT) h8 (by omega) (by decide) (by decide)) (by decide) ?_)
      rw [decide_eq_true hj, Bool.true_and]
      by_cases c1 : zlo T.2 32 32 j = true
      · rw [zB_t c1]
        exact step (decide_eq_true (by have := of_decide_eq_true c1; omega))
      · rw [Bool.not_eq_true] at c1
        rw [zB_f c1]
        refine zvRd ob_98 (m_isAt (lo := 10) (hi := 10) (hF.mt hT) h8 (by omega) (by decide) (by decide)) (by decide) ?_
        rw [decide_eq_true hj, Bool.true_and]
        by_cases c2 : zlo T.2 10 10 j = true
        · rw [zB_t c2]
          exact step (decide_eq_true (by have := of_decide_eq_true c2; omega))
        · rw [Bool.not_eq_true] at c2
          rw [zB_f c2]
          rw [zre_n (fun z => by
            have q1 := of_decide_eq_false c1
            have q2 := of_decide_eq_false c2
            have q3 := of_decide_eq_true z.2
            omega)] at e
          rw [e] at h8
          exact fin I hF h8
  exact eX12_next _ (key i hN I0 (zF8.refl _) hi rfl)
end ZMx
