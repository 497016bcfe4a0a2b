/-! ===== told: the class reads ===== -/
theorem nI_ne1 {b : Nat} (hb : b < 2 ^ 31) : ¬ nI b = -1 := fun e => nI_pos hb (by rw [e]; decide)
theorem zrk_mono {T : zBy} {n s l : Nat} {i : Nat} (h : (zrk T n s l i).1 = false) : ∀ j, (zrk T n s l (i + j)).1 = false
  | 0 => h
  | j + 1 => by
    show ((zrk T n s l (i + j)).1 && _) = false
    rw [zrk_mono h j, Bool.false_and]
theorem zrk_lt {T : zBy} {n s l : Nat} (h : ∀ j, j < l → T.2 (s + j) ≤ 57) : ∀ i, i ≤ l → (zrk T n s l i).2 < 2 ^ 10
  | 0, _ => by
    show 0 < 2 ^ 10
    decide
  | i + 1, hi => by
    have := h i (by omega)
    exact Nat.or_lt_two_pow (zrk_lt h i (by omega)) (Nat.pow_lt_pow_right (by decide) (by omega))
theorem zrk_ok {T : zBy} {n s l : Nat} : ∀ i, (zrk T n s l i).1 = true → l = n ∧ (∀ j, j < i → T.2 (s + j) - 48 < n ∧ (zrk T n s l i).2.testBit (T.2 (s + j) - 48) = true) ∧ ∀ j k, j < i → k < i → T.2 (s + j) - 48 = T.2 (s + k) - 48 → j = k
  | 0, h => ⟨of_decide_eq_true h, fun j hj => absurd hj (Nat.not_lt_zero _), fun j _ hj => absurd hj (Nat.not_lt_zero _)⟩
  | i + 1, h => by
    have h : ((zrk T n s l i).1 && (decide (T.2 (s + i) - 48 < n) && !(zrk T n s l i).2.testBit (T.2 (s + i) - 48))) = true := h
    rw [Bool.and_eq_true, Bool.and_eq_true, decide_eq_true_eq, Bool.not_eq_true'] at h
    obtain ⟨h1, h2, h3⟩ := h
    obtain ⟨g1, g2, g3⟩ := zrk_ok i h1
    have e : (zrk T n s l (i + 1)).2 = (zrk T n s l i).2 ||| 2 ^ (T.2 (s + i) - 48) := rfl
    refine ⟨g1, fun j hj => ?_, fun j k hj hk hjk => ?_⟩
    · rw [e, Nat.testBit_or, Bool.or_eq_true]
      by_cases c : j = i
      · subst c
        exact ⟨h2, Or.inr (Nat.testBit_two_pow_self)⟩
      · exact ⟨(g2 j (by omega)).1, Or.inl (g2 j (by omega)).2⟩
    · by_cases cj : j = i
      · by_cases ck : k = i
        · omega
        · subst cj
          have := (g2 k (by omega)).2
          rw [← hjk, h3] at this
          cases this
      · by_cases ck : k = i
        · subst ck
          have := (g2 j (by omega)).2
          rw [hjk, h3] at this
          cases this
        · exact g3 j k (by omega) (by omega) hjk
theorem zrok_ho {T : zBy} {x : zSl} {tk : zTok} (h : zrok T x.1 tk = true) (hx : zHo x.1 x.2.2.1 x.2.2.2) (hR : x.2.2.1 < 6) : tk.2.2 - tk.2.1 = x.1 ∧ zHo x.1 (zadd T x tk.2.1).2.2.1 (zadd T x tk.2.1).2.2.2 := by
  obtain ⟨g1, g2, g3⟩ := zrk_ok _ h
  obtain ⟨h1, h2, h3, h4⟩ := hx
  refine ⟨g1, ?_, fun r i hr hi => ?_, fun r i j hr hi hj e => ?_, fun r i hri => ?_⟩
  · show x.2.2.1 + 1 ≤ 6
    omega
  · show (if r = x.2.2.1 then (if i < x.1 then T.2 (tk.2.1 + i) - 48 else 0) else x.2.2.2 r i) < x.1
    have hr : r < x.2.2.1 + 1 := hr
    by_cases c : r = x.2.2.1
    · rw [if_pos c, if_pos hi]
      exact (g2 i (by omega)).1
    · rw [if_neg c]
      exact h2 r i (by omega) hi
  · have hr : r < x.2.2.1 + 1 := hr
    have e : (if r = x.2.2.1 then (if i < x.1 then T.2 (tk.2.1 + i) - 48 else 0) else x.2.2.2 r i) = (if r = x.2.2.1 then (if j < x.1 then T.2 (tk.2.1 + j) - 48 else 0) else x.2.2.2 r j) := e
    by_cases c : r = x.2.2.1
    · rw [if_pos c, if_pos hi, if_pos c, if_pos hj] at e
      exact g3 i j (by omega) (by omega) e
    · rw [if_neg c, if_neg c] at e
      exact h3 r i j (by omega) hi hj e
  · show (if r = x.2.2.1 then (if i < x.1 then T.2 (tk.2.1 + i) - 48 else 0) else x.2.2.2 r i) = 0
    have hri : x.2.2.1 + 1 ≤ r ∨ x.1 ≤ i := hri
    by_cases c : r = x.2.2.1
    · rw [if_pos c, if_neg (by omega)]
    · rw [if_neg c]
      exact h4 r i (by omega)
section ZRd
variable {X : zX} {I A I0 A0 : zF2} {t : zW} {T : zBy} {tk : zTok} {x : zSl} {d : Nat}
theorem v_thingF (h : zRc I0 A0 T tk x I A) {k : Nat} (hz : zthg T x.1 tk = .inl k) : zEv X 2 0 0 MX7_thingHere [.ref 79, .ref 17] (zWd I A t) (fun v w1 => v = some (.int (-1)) ∧ ∃ I', w1 = zWd I' A t ∧ zBc I0 A0 (k, tk.2.1) I' A) := by
  have := v_thing (X := X) (t := t) h
  rw [hz] at this
  exact this
theorem v_thingT (h : zRc I0 A0 T tk x I A) {b : Nat} (hz : zthg T x.1 tk = .inr b) : zRd X 2 MX7_thingHere [.ref 79, .ref 17] (zWd I A t) (nI b) := by
  have := v_thing (X := X) (t := t) h
  rw [hz] at this
  exact this
theorem v_chain : ∀ k a tk x I A turn, T.1 < tk.2.1 + k → turn ≤ tk.2.1 → a < x.1 → zRc I0 A0 T tk x I A → zRn X 4 0 0 MX7_readClimb 34 [some (.ref 79), some (.ref 17), some (.int (nI a)), some (.int (nI turn)), none] [] (zWd I A t) (zPq I0 A0 T t (zchn T k a tk x))
  | 0, a, tk, x, I, A, turn, hk, ht, ha, h => by
    have h1 := h.1.1.1
    have h2 := h.1.1.2.1
    omega
  | k + 1, a, tk, x, I, A, turn, hk, ht, ha, h => by
    have h8 := h.2.1.n8
    have h4 := h.1.2.1.1
    refine bX7_readClimb_34 _ _ _ _ (zvRd ob_79 (v_isSign (c := 60) h.1 (by decide)) (by decide) ?_)
    rw [zB_if]
    unfold zchn
    by_cases cs : zsgn T 60 tk = true
    · have hs := zsgn_k h.1.1 cs
      rw [if_pos cs, if_pos cs]
      show if nI 400 ≤ nI turn then _ else _
      rw [zi_le (by decide) (by omega), if_neg (by omega)]
      refine k_advC h (by decide) (fun I1 h1 => ?_)
      cases hz : zthg T x.1 (znx T tk) with
      | inl f =>
        refine zvI1 ob_79 (v_thingF h1 hz) (by decide) ?_
        rintro w1 ⟨I', rfl, hb⟩
        rw [if_pos rfl]
        exact ⟨rfl, I', _, rfl, hb⟩
      | inr b =>
        have hb := zthg_r hz
        refine zvRd ob_79 (v_thingT h1 hz) (by decide) ?_
        rw [if_neg (nI_ne1 (by omega)), zi_eq (by omega) (by omega)]
        have bad : a = b ∨ zlt x.2.1 b a = true → zRn X 4 0 0 MX7_readClimb 85 [some (.ref 79), none, none, none, none] [] (zWd I1 A t) (zPq I0 A0 T t (if a = b ∨ zlt x.2.1 b a = true then .inl (3, (znx T tk).2.1) else zchn T k b (znx T (znx T tk)) (x.1, zln x.2.1 a b, x.2.2))) := fun c => by
          rw [if_pos c]
          refine bX7_readClimb_85 _ (zvI1 ob_79 (v_refuse h1.1 3) (by decide) ?_)
          rintro w1 ⟨I', rfl, hb⟩
          exact ⟨Or.inl rfl, rfl, I', _, rfl, hb⟩
        by_cases ce : b = a
        · rw [if_pos ce]
          exact bad (Or.inl ce.symm)
        · rw [if_neg ce]
          refine zvRd h1.2.1.1.ob (v_under h1.2.1 (by omega) (by omega)) (by decide) ?_
          rw [zB_if]
          by_cases cl : zlt x.2.1 b a = true
          · rw [if_pos cl]
            exact bad (Or.inr cl)
          · rw [if_neg cl]
            have eo : (if a = b ∨ zlt x.2.1 b a = true then (Sum.inl (3, (znx T tk).2.1) : zOc) else zchn T k b (znx T (znx T tk)) (x.1, zln x.2.1 a b, x.2.2)) = zchn T k b (znx T (znx T tk)) (x.1, zln x.2.1 a b, x.2.2) := if_neg (by rintro (q | q); exact ce q.symm; exact cl q)
            rw [Bool.not_eq_true] at cl
            refine zvI1 h1.2.1.1.ob (v_link h1.2 ha hb (fun e => ce e.symm) cl) (by decide) ?_
            rintro w1 ⟨I2, A2, rfl, g1, g2⟩
            have h2 : zRc I0 A0 T (znx T tk) (x.1, zln x.2.1 a b, x.2.2) I2 A2 := ⟨g2.rl h1.1, g1⟩
            refine k_advC h2 (by decide) (fun I3 h3 => ?_)
            rw [nI_1]
            have m1 := (znx_v h.1.1)
            have m2 := (znx_v m1.1)
            have m3 := m1.1.1
            have fin := v_chain k b (znx T (znx T tk)) (x.1, zln x.2.1 a b, x.2.2) I3 A2 (turn + 1) (by omega) (by omega) hb h3
            rw [← eo] at fin
            exact fin
    · rw [if_neg cs, if_neg cs]
      exact ⟨rfl, I, A, rfl, h⟩
theorem v_climb (h : zRc I0 A0 T tk x I A) : zEv X 4 0 0 MX7_readClimb [.ref 79, .ref 17] (zWd I A t) (zPq I0 A0 T t (zcli T tk x)) := by
  have h8 := h.2.1.n8
  have h4 := h.1.2.1.1
  unfold zcli
  cases hz : zthg T x.1 tk with
  | inl f =>
    refine eX7_readClimb _ _ (bX7_readClimb_0 _ _ (zvI1 ob_79 (v_thingF h hz) (by decide) ?_))
    rintro w1 ⟨I', rfl, hb⟩
    rw [if_pos rfl]
    exact ⟨rfl, I', _, rfl, hb⟩
  | inr a =>
    have ha := zthg_r hz
    refine eX7_readClimb _ _ (bX7_readClimb_0 _ _ (zvRd ob_79 (v_thingT h hz) (by decide) ?_))
    rw [if_neg (nI_ne1 (by omega))]
    refine k_advC h (by decide) (fun I1 h1 => zvRd ob_79 (v_isSign (c := 60) h1.1 (by decide)) (by decide) ?_)
    rw [zB_if]
    by_cases cs : zsgn T 60 (znx T tk) = true
    · rw [if_pos cs]
      show zRn X 4 0 0 MX7_readClimb 34 _ [] _ (zPq I0 A0 T t (if _ then _ else _))
      rw [if_pos cs]
      exact v_chain 401 a _ _ _ _ 0 (by omega) (Nat.zero_le _) ha h1
    · rw [if_neg cs]
      refine zvI1 ob_79 (v_refuse h1.1 1) (by decide) ?_
      rintro w1 ⟨I', rfl, hb⟩
      refine ⟨Or.inl rfl, ?_⟩
      show zPq I0 A0 T t (if _ then _ else _) _ _
      rw [if_neg cs]
      exact ⟨rfl, I', _, rfl, hb⟩
theorem v_semi (h : zRc I0 A0 T tk x I A) : zEv X 3 0 0 MX7_passSemicolon [.ref 79] (zWd I A t) (zPq I0 A0 T t (zsc T tk x)) := by
  unfold zsc
  refine eX7_passSemicolon _ (bX7_passSemicolon_0 _ (zvRd ob_79 (v_isSign (c := 59) h.1 (by decide)) (by decide) ?_))
  rw [zB_if]
  by_cases cs : zsgn T 59 tk = true
  · rw [if_pos cs, if_pos cs]
    exact k_advC h (by decide) (fun I1 h1 => ⟨rfl, I1, A, rfl, h1⟩)
  · rw [if_neg cs, if_neg cs]
    refine zvI1 ob_79 (v_refuse h.1 1) (by decide) ?_
    rintro w1 ⟨I', rfl, hb⟩
    exact ⟨Or.inl rfl, rfl, I', _, rfl, hb⟩
end ZRd
