/-! ===== told: the class's rows, head, read ===== -/
section ZR2
variable {X : zX} {I A I0 A0 : zF2} {t : zW} {T : zBy} {tk : zTok} {x : zSl} {d : Nat}
theorem v_twosL : ∀ k c tk x I A turn, c < 256 → T.1 < tk.2.1 + k → turn ≤ tk.2.1 → zRc I0 A0 T tk x I A → zRn X 5 0 0 MX7_readTwos 9 [some (.ref 79), some (.ref 17), some (.int (zB (zsgn T c tk))), some (.int (nI turn))] [] (zWd I A t) (zPq I0 A0 T t (zbd (zts T k c tk x) (zsc T)))
  | 0, c, tk, x, I, A, turn, hc, hk, ht, h => by
    have h1 := h.1.1.1
    have h2 := h.1.1.2.1
    omega
  | k + 1, c, tk, x, I, A, turn, hc, hk, ht, h => by
    have h4 := h.1.2.1.1
    refine bX7_readTwos_9 _ _ _ _ ?_
    rw [zB_if]
    unfold zts
    by_cases cs : zsgn T c tk = true
    · have hs := zsgn_k h.1.1 cs
      rw [if_pos cs, if_pos cs]
      show if nI 400 ≤ nI turn then _ else _
      rw [zi_le (by decide) (by omega), if_neg (by omega)]
      refine k_advC h (by decide) (fun I1 h1 => ?_)
      have ev := v_climb (X := X) (t := t) h1
      cases hz : zcli T (znx T tk) x with
      | inl f =>
        rw [hz] at ev
        refine zvI1 ob_79 (x := 0) (P := fun w1 => ∃ I' A', w1 = zWd I' A' t ∧ zBc I0 A0 f I' A') ev (by decide) ?_
        rintro w1 ⟨I', A', rfl, hb⟩
        rw [if_pos rfl]
        exact ⟨rfl, I', A', rfl, hb⟩
      | inr o =>
        obtain ⟨tk', x'⟩ := o
        rw [hz] at ev
        have hr := zcli_r h1.1.1 hz
        refine zvI1 ob_79 (x := 1) (P := fun w1 => ∃ I' A', w1 = zWd I' A' t ∧ zRc I0 A0 T tk' x' I' A') ev (by decide) ?_
        rintro w1 ⟨I', A', rfl, h2⟩
        rw [if_neg (by decide)]
        refine zvRd ob_79 (v_isSign (c := 44) h2.1 (by decide)) (by decide) ?_
        rw [nI_1]
        have m1 := znx_v h.1.1
        have m2 := m1.1.1
        exact v_twosL k 44 tk' x' I' A' (turn + 1) (by decide) (by omega) (by omega) h2
    · rw [if_neg cs, if_neg cs]
      refine bX7_readTwos_47 _ ?_
      have ev := v_semi (X := X) (t := t) h
      show zIs _ 79 7 ∧ zCallI X 5 _ _ _ (fun x2 w1 => zBool x2 ∧ zPq I0 A0 T t (zsc T tk x) (some (.int x2)) w1)
      cases hz : zsc T tk x with
      | inl f =>
        rw [hz] at ev
        refine zvI1 ob_79 (x := 0) (P := fun w1 => ∃ I' A', w1 = zWd I' A' t ∧ zBc I0 A0 f I' A') ev (by decide) ?_
        intro w1 hw
        exact ⟨Or.inl rfl, rfl, hw⟩
      | inr o =>
        rw [hz] at ev
        refine zvI1 ob_79 (x := 1) (P := fun w1 => ∃ I' A', w1 = zWd I' A' t ∧ zRc I0 A0 T o.1 o.2 I' A') ev (by decide) ?_
        intro w1 hw
        exact ⟨Or.inr rfl, rfl, hw⟩
theorem v_isRowOf (h : zRc I0 A0 T tk x I A) (h2 : tk.1 = 2) : zRd X 1 MX7_isRowOf [.ref 79, .ref 17] (zWd I A t) (zB (zrok T x.1 tk)) := by
  have h8 := h.2.1.n8
  have ht := h.1.2.1
  have h4 := ht.1
  have h3 := h.1.2.2.1
  have hs1 := h.1.1.1
  have hs2 := h.1.1.2.1
  have hdg := h.1.1.2.2.2.1 h2
  have hsz : zRd X 0 MX5_size [.ref 17] (zWd I A t) (nI x.1) := eX5_size _ (bX5_size_0 _ ⟨_, h.2.1.sz, rfl, rfl⟩)
  refine eX7_isRowOf _ _ (bX7_isRowOf_0 _ _ ⟨_, fi_79_3.rd, _, fi_79_2.rd, zvRd h.2.1.1.ob hsz (by decide) ?_⟩)
  rw [h3.2.2, h3.2.1, pk_sub hs1, zi_eq (by omega) (by omega)]
  unfold zrok
  by_cases c : tk.2.2 - tk.2.1 = x.1
  · rw [if_pos c]
    refine ⟨_, fi_79_2.rd, ?_⟩
    rw [h3.2.1]
    have hlt := zrk_lt (T := T) (n := x.1) (s := tk.2.1) (l := tk.2.2 - tk.2.1) (fun j hj => (hdg (tk.2.1 + j) (by omega) (by omega)).2)
    have key : ∀ i, i ≤ tk.2.2 - tk.2.1 → (zrk T x.1 tk.2.1 (tk.2.2 - tk.2.1) i).1 = true → zRn X 1 0 0 MX7_isRowOf 25 [some (.ref 79), some (.ref 17), some (.int (nI (zrk T x.1 tk.2.1 (tk.2.2 - tk.2.1) i).2)), some (.int (nI (tk.2.1 + i))), none] [] (zWd I A t) (fun v w1 => v = some (.int (zB (zrk T x.1 tk.2.1 (tk.2.2 - tk.2.1) (tk.2.2 - tk.2.1)).1)) ∧ w1 = zWd I A t) := by
      refine zdown ?_ ?_
      · intro e
        refine bX7_isRowOf_25 _ _ _ _ ⟨_, fi_79_3.rd, ?_⟩
        rw [h3.2.2, show tk.2.1 + (tk.2.2 - tk.2.1) = tk.2.2 by omega, if_pos (Int32.le_refl _), e]
        exact ⟨rfl, rfl⟩
      · intro i hi ih e
        have hd := hdg (tk.2.1 + i) (by omega) (by omega)
        have hl := hlt i (by omega)
        have e1 : nI (T.2 (tk.2.1 + i)) - 48 = nI (T.2 (tk.2.1 + i) - 48) := pk_sub (b := 48) hd.1
        have en : (zrk T x.1 tk.2.1 (tk.2.2 - tk.2.1) (i + 1)).1 = ((zrk T x.1 tk.2.1 (tk.2.2 - tk.2.1) i).1 && (decide (T.2 (tk.2.1 + i) - 48 < x.1) && !(zrk T x.1 tk.2.1 (tk.2.2 - tk.2.1) i).2.testBit (T.2 (tk.2.1 + i) - 48))) := rfl
        have no : (zrk T x.1 tk.2.1 (tk.2.2 - tk.2.1) (i + 1)).1 = false → (zrk T x.1 tk.2.1 (tk.2.2 - tk.2.1) (tk.2.2 - tk.2.1)).1 = false := fun e2 => by
          have := zrk_mono e2 (tk.2.2 - tk.2.1 - (i + 1))
          rw [show i + 1 + (tk.2.2 - tk.2.1 - (i + 1)) = tk.2.2 - tk.2.1 by omega] at this
          exact this
        refine bX7_isRowOf_25 _ _ _ _ ⟨_, fi_79_3.rd, ?_⟩
        rw [h3.2.2, zi_le (by omega) (by omega), if_neg (by omega)]
        refine ⟨_, fr_79_0.rd, zvRd ob_75 (v_tapeN ht (by omega)) (by decide) ?_⟩
        rw [e1]
        refine zvRd h.2.1.1.ob (v_hasN h.2.1 (by omega)) (by decide) ?_
        rw [zB_ifP]
        by_cases c1 : T.2 (tk.2.1 + i) - 48 < x.1
        · rw [if_pos c1, zi_has (by omega) (by omega)]
          by_cases c2 : (zrk T x.1 tk.2.1 (tk.2.2 - tk.2.1) i).2.testBit (T.2 (tk.2.1 + i) - 48) = true
          · rw [if_pos c2, no (by rw [en, c2, Bool.not_true, Bool.and_false, Bool.and_false])]
            exact ⟨rfl, rfl⟩
          · rw [if_neg c2, zb_1 _ (by omega), zb_or, nI_1]
            rw [Bool.not_eq_true] at c2
            exact ih (by rw [en, c2, e, decide_eq_true c1]; rfl)
        · rw [if_neg c1, no (by rw [en, decide_eq_false c1, Bool.false_and, Bool.and_false])]
          exact ⟨rfl, rfl⟩
    exact key 0 (Nat.zero_le _) (decide_eq_true c)
  · rw [if_neg c]
    have := zrk_mono (T := T) (n := x.1) (s := tk.2.1) (l := tk.2.2 - tk.2.1) (i := 0) (decide_eq_false c) (tk.2.2 - tk.2.1)
    rw [Nat.zero_add] at this
    rw [this]
    exact ⟨rfl, rfl⟩
theorem v_takeRow (h : zRc I0 A0 T tk x I A) (h2 : tk.1 = 2) (hR : x.2.2.1 < 6) (hok : zrok T x.1 tk = true) : zEv X 2 0 0 MX7_takeRow [.ref 79, .ref 17] (zWd I A t) (fun v w1 => v = none ∧ ∃ I' A', w1 = zWd I' A' t ∧ zRc I0 A0 T tk (zadd T x tk.2.1) I' A') := by
  have h8 := h.2.1.n8
  have ht := h.1.2.1
  have h4 := ht.1
  have h3 := h.1.2.2.1
  have hs1 := h.1.1.1
  have hs2 := h.1.1.2.1
  have hdg := h.1.1.2.2.2.1 h2
  obtain ⟨hn, hH⟩ := zrok_ho hok h.2.2.1 hR
  have hrw : ∀ I A, zRf X 0 MX5_rows [.ref 17] (zWd I A t) 20 := fun I A => eX5_rows _ (bX5_rows_0 _ ⟨_, q17.rw.rd, rfl, rfl⟩)
  have hI : I 20 1 = nI x.2.2.1 := h.2.2.2.1
  refine eX7_takeRow _ _ (bX7_takeRow_0 _ _ (zvRf q17.ob (hrw I A) (by decide) ?_))
  refine zvI1 q17.rob (v_open q17 hI hR) (by decide) ?_
  rintro w1 rfl
  have e79 : va_up I 20 (upd (I 20) 1 (nI (x.2.2.1 + 1))) 79 = I 79 := zup_ne (by decide)
  refine ⟨_, fi_79_2.rd, ?_⟩
  rw [e79, h3.2.1]
  have key : ∀ i, i ≤ x.1 → ∀ D : Nat → Int32, (∀ j, j < i → D (8 * x.2.2.1 + j) = nI (T.2 (tk.2.1 + j) - 48)) → (∀ j, j < 8 * x.2.2.1 → D j = A 21 j) → zRn X 2 0 0 MX7_takeRow 13 [some (.ref 79), some (.ref 17), some (.int (nI x.2.2.1)), some (.int (nI (tk.2.1 + i)))] [] (zWd (va_up I 20 (upd (I 20) 1 (nI (x.2.2.1 + 1)))) (va_up A 21 D) t) (fun v w1 => v = none ∧ ∃ I' A', w1 = zWd I' A' t ∧ zRc I0 A0 T tk (zadd T x tk.2.1) I' A') := by
    have hon : ∀ D, zOn 17 I A (va_up I 20 (upd (I 20) 1 (nI (x.2.2.1 + 1)))) (va_up A 21 D) := fun D => ((zOn.refl 17 I A).f (p := 20) (by decide)).a (p := 21) (by decide)
    refine zdown ?_ ?_
    · intro D d1 d2
      refine bX7_takeRow_13 _ _ _ _ ⟨_, fi_79_3.rd, ?_⟩
      rw [e79, h3.2.2, show tk.2.1 + x.1 = tk.2.2 by omega, if_pos (Int32.le_refl _)]
      refine ⟨rfl, _, _, rfl, (hon D).rl h.1, ?_⟩
      obtain ⟨⟨o1, o2, o3, o4, o5⟩, g1, g2, g3⟩ := h.2
      refine ⟨⟨o1, o2, ?_, fun b hb => ?_, fun b hb => ?_⟩, hH, ?_, fun r i hr hi => ?_⟩
      · rw [zup_ne (by decide)]
        exact o3
      · rw [zup_ne (by decide)]
        exact o4 b hb
      · rw [zup_ne (by decide)]
        exact o5 b hb
      · show va_up I 20 _ 20 1 = _
        rw [zup_eq, upd_eq]
        rfl
      · show va_up A 21 D 21 (8 * r + i) = nI (if r = x.2.2.1 then (if i < x.1 then T.2 (tk.2.1 + i) - 48 else 0) else x.2.2.2 r i)
        have hr : r < x.2.2.1 + 1 := hr
        have hi : i < x.1 := hi
        rw [zup_eq]
        by_cases c : r = x.2.2.1
        · rw [if_pos c, if_pos hi, c]
          exact d1 i hi
        · rw [if_neg c, d2 _ (by omega)]
          exact g3 r i (by omega) hi
    · intro i hi ih D d1 d2
      have hd := hdg (tk.2.1 + i) (by omega) (by omega)
      refine bX7_takeRow_13 _ _ _ _ ⟨_, fi_79_3.rd, ?_⟩
      rw [e79, h3.2.2, zi_le (by omega) (by omega), if_neg (by omega)]
      refine zvRf q17.ob (hrw _ _) (by decide) ⟨_, fi_79_2.rd, _, fr_79_0.rd, zvRd ob_75 (v_tapeN ((hon D).rl h.1).2.1 (by omega)) (by decide) ?_⟩
      have e1 : nI (T.2 (tk.2.1 + i)) - 48 = nI (T.2 (tk.2.1 + i) - 48) := pk_sub (b := 48) hd.1
      rw [e79, h3.2.1, pk_sub (by omega), show tk.2.1 + i - tk.2.1 = i by omega, e1]
      refine zvV q17.rob (v_rput q17 hR (by omega) _) (by decide) ?_
      rintro w1 rfl
      rw [zup_eq, bx_uu, nI_1]
      refine ih _ (fun j hj => ?_) (fun j hj => ?_)
      · by_cases c : j = i
        · rw [c, upd_eq]
        · rw [upd_ne _ _ (by omega)]
          exact d1 j (by omega)
      · rw [upd_ne _ _ (by omega)]
        exact d2 j hj
  have k0 := key 0 (Nat.zero_le _) (A 21) (fun j hj => absurd hj (Nat.not_lt_zero _)) (fun _ _ => rfl)
  rw [zup_self] at k0
  exact k0
end ZR2
