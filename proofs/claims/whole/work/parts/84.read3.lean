/-! ===== told: the class, whole ===== -/
theorem zsc_r {T : zBy} {tk tk' : zTok} {x x' : zSl} (hv : zTV T tk) (h : zsc T tk x = .inr (tk', x')) : zTV T tk' ∧ tk.2.2 ≤ tk'.2.1 ∧ x' = x := by
  unfold zsc at h
  split at h
  · cases h
    exact ⟨(znx_v hv).1, (znx_v hv).2, rfl⟩
  · cases h
theorem zchn_n {T : zBy} : ∀ k a tk x tk' x', zchn T k a tk x = .inr (tk', x') → x'.1 = x.1
  | 0, a, tk, x, tk', x', h => by
    cases h
    rfl
  | k + 1, a, tk, x, tk', x', h => by
    unfold zchn at h
    split at h
    · split at h
      · cases h
      · split at h
        · cases h
        · have := zchn_n k _ _ _ _ _ h
          exact this
    · cases h
      rfl
theorem zcli_n {T : zBy} {tk tk' : zTok} {x x' : zSl} (h : zcli T tk x = .inr (tk', x')) : x'.1 = x.1 := by
  unfold zcli at h
  split at h
  · cases h
  · split at h
    · exact zchn_n _ _ _ _ _ _ h
    · cases h
theorem zts_n {T : zBy} : ∀ k c tk x tk' x', zts T k c tk x = .inr (tk', x') → x'.1 = x.1
  | 0, c, tk, x, tk', x', h => by
    cases h
    rfl
  | k + 1, c, tk, x, tk', x', h => by
    unfold zts at h
    split at h
    · split at h
      · cases h
      · rename_i hz
        exact (zts_n k _ _ _ _ _ h).trans (zcli_n hz)
    · cases h
      rfl
theorem zrs_n {T : zBy} : ∀ k tk x tk' x', zrs T k tk x = .inr (tk', x') → x'.1 = x.1
  | 0, tk, x, tk', x', h => by
    cases h
    rfl
  | k + 1, tk, x, tk', x', h => by
    unfold zrs at h
    split at h
    · cases h
      rfl
    · split at h
      · split at h
        · split at h
          · split at h
            · split at h
              · cases h
              · rename_i hz
                have h2 := zrs_n k _ _ _ _ h
                rw [h2]
                unfold zsc at hz
                split at hz
                · cases hz
                  rfl
                · cases hz
            · cases h
          · cases h
        · cases h
      · cases h
theorem zParse_n {T : zBy} {tk : zTok} {y : zSl} (h : zParse T = .inr (tk, y)) : 1 ≤ y.1 := by
  unfold zParse at h
  cases h1 : zhd T with
  | inl f =>
    rw [h1] at h
    cases h
  | inr o1 =>
    obtain ⟨tk1, x1⟩ := o1
    rw [h1] at h
    have n1 : 1 ≤ x1.1 := by
      unfold zhd at h1
      split at h1
      · split at h1
        · split at h1
          · rename_i c
            cases h1
            exact c.1
          · cases h1
        · cases h1
      · cases h1
    have h : zbd (zbd (zts T 401 58 tk1 x1) (zsc T)) (zrs T 401) = .inr (tk, y) := h
    cases h2 : zts T 401 58 tk1 x1 with
    | inl f =>
      rw [h2] at h
      cases h
    | inr o2 =>
      obtain ⟨tk2, x2⟩ := o2
      rw [h2] at h
      have n2 := zts_n _ _ _ _ _ _ h2
      have h : zbd (zsc T tk2 x2) (zrs T 401) = .inr (tk, y) := h
      cases h3 : zsc T tk2 x2 with
      | inl f =>
        rw [h3] at h
        cases h
      | inr o3 =>
        obtain ⟨tk3, x3⟩ := o3
        rw [h3] at h
        have h : zrs T 401 tk3 x3 = .inr (tk, y) := h
        have n3 : x3 = x2 := by
          unfold zsc at h3
          split at h3
          · cases h3
            rfl
          · cases h3
        have n4 := zrs_n _ _ _ _ _ h
        rw [n4, n3, n2]
        exact n1
section ZR3
variable {X : zX} {I A I0 A0 : zF2} {t : zW} {T : zBy} {tk : zTok} {x : zSl} {d : Nat}
/-- a reading call, by its outcome -/
theorem zvQ {o : zOc} {N : zM} {av : List Value} {d1 : Nat} {K : Int32 → zW → Prop} (ev : zEv X d1 0 0 N av (zWd I A t) (zPq I0 A0 T t o)) (hd : d1 < d) (k0 : ∀ f I' A', o = .inl f → zBc I0 A0 f I' A' → K 0 (zWd I' A' t)) (k1 : ∀ tk x I' A', o = .inr (tk, x) → zRc I0 A0 T tk x I' A' → K 1 (zWd I' A' t)) : zIs (zWd I A t) 79 7 ∧ zCallI X d N av (zWd I A t) K := by
  cases o with
  | inl f =>
    refine zvI1 ob_79 (x := 0) (P := fun w1 => ∃ I' A', w1 = zWd I' A' t ∧ zBc I0 A0 f I' A') ev hd ?_
    rintro w1 ⟨I', A', rfl, hb⟩
    exact k0 f I' A' rfl hb
  | inr o =>
    refine zvI1 ob_79 (x := 1) (P := fun w1 => ∃ I' A', w1 = zWd I' A' t ∧ zRc I0 A0 T o.1 o.2 I' A') ev hd ?_
    rintro w1 ⟨I', A', rfl, hb⟩
    exact k1 o.1 o.2 I' A' rfl hb
theorem v_rowsL : ∀ k tk x I A turn, T.1 < tk.2.1 + k → turn ≤ tk.2.1 → zRc I0 A0 T tk x I A → zRn X 7 0 0 MX7_readRows 2 [some (.ref 79), some (.ref 17), some (.int (nI turn))] [] (zWd I A t) (zPq I0 A0 T t (zrs T k tk x))
  | 0, tk, x, I, A, turn, hk, ht, h => by
    have h1 := h.1.1.1
    have h2 := h.1.1.2.1
    omega
  | k + 1, tk, x, I, A, turn, hk, ht, h => by
    have h4 := h.1.2.1.1
    have hv := h.1.1
    have h6 := h.2.2.1.1
    have hs1 := hv.1
    have hs2 := hv.2.1
    have hkd := hv.2.2.2.2
    have hrw : ∀ I A, zRf X 0 MX5_rows [.ref 17] (zWd I A t) 20 := fun I A => eX5_rows _ (bX5_rows_0 _ ⟨_, q17.rw.rd, rfl, rfl⟩)
    have refuse : ∀ (k : Nat) (tk : zTok) (I : zF2), zRl I0 A0 T tk I A → zIs (zWd I A t) 79 7 ∧ zCallI X 7 MX7_refuse [.ref 79, .int (nI k)] (zWd I A t) (fun x w => zBool x ∧ zPq I0 A0 T t (.inl (k, tk.2.1)) (some (.int x)) w) := fun k tk I h => by
      refine zvI1 ob_79 (v_refuse h k) (by decide) ?_
      rintro w1 ⟨I', rfl, hb⟩
      exact ⟨Or.inl rfl, rfl, I', A, rfl, hb⟩
    refine bX7_readRows_2 _ _ _ ⟨_, fi_79_1.rd, ?_⟩
    rw [h.1.2.2.1.1]
    show if nI tk.1 = nI 0 then _ else if nI 400 ≤ nI turn then _ else _
    rw [zi_eq (by omega) (by decide)]
    unfold zrs
    by_cases c0 : tk.1 = 0
    · rw [if_pos c0, if_pos c0]
      exact ⟨rfl, I, A, rfl, h⟩
    · have hlt := hv.2.2.1 c0
      rw [if_neg c0, if_neg c0, zi_le (by decide) (by omega), if_neg (by omega)]
      refine zvRd ob_79 (v_isWord h.1 (i := 1) (by decide)) (by decide) ?_
      rw [zB_if]
      by_cases c1 : zisw T 1 tk = true
      · rw [if_pos c1, if_pos c1]
        refine zvRf q17.ob (hrw I A) (by decide) (zvRd q17.rob (v_rsize q17) (by decide) ?_)
        have hI : I 20 1 = nI x.2.2.1 := h.2.2.2.1
        show if I 20 1 < nI 6 then _ else _
        rw [hI, zi_lt (by omega) (by decide)]
        by_cases c2 : x.2.2.1 < 6
        · rw [if_pos c2, if_pos c2]
          refine k_advC h (by decide) (fun I1 h1 => ⟨_, fi_79_1.rd, ?_⟩)
          have m1 := znx_v hv
          rw [h1.1.2.2.1.1]
          show if nI (znx T tk).1 = nI 2 then _ else _
          rw [zi_eq (by have := m1.1.2.2.2.2; omega) (by decide)]
          by_cases c3 : (znx T tk).1 = 2
          · rw [if_pos c3, if_pos c3]
            refine zvRd ob_79 (v_isRowOf h1 c3) (by decide) ?_
            rw [zB_if]
            by_cases c4 : zrok T x.1 (znx T tk) = true
            · rw [if_pos c4, if_pos c4]
              refine zvV ob_79 (v_takeRow h1 c3 c2 c4) (by decide) ?_
              rintro w1 ⟨I2, A2, rfl, h2⟩
              refine k_advC h2 (by decide) (fun I3 h3 => ?_)
              have m2 := znx_v m1.1
              refine zvQ (v_semi h3) (by decide) (fun f I' A' e hb => ?_) (fun tk' x' I' A' e h5 => ?_)
              · rw [if_pos rfl, e]
                exact ⟨rfl, I', A', rfl, hb⟩
              · rw [if_neg (by decide), e, nI_1]
                have m3 := zsc_r m2.1 e
                have m4 := m1.1.1
                have m5 := m2.1.1
                exact v_rowsL k tk' x' I' A' (turn + 1) (by omega) (by omega) h5
            · rw [if_neg c4, if_neg c4]
              exact refuse 4 _ _ h1.1
          · rw [if_neg c3, if_neg c3]
            exact refuse 1 _ _ h1.1
        · rw [if_neg c2, if_neg c2]
          exact refuse 5 _ _ h.1
      · rw [if_neg c1, if_neg c1]
        exact refuse 1 _ _ h.1
theorem v_head (h : zRl I0 A0 T (zLex T 0) I A) : zEv X 7 0 0 MX7_readHead [.ref 79, .ref 17] (zWd I A t) (zPq I0 A0 T t (zhd T)) := by
  have hv := h.1
  have m1 := znx_v hv
  have hva := zva_le T (znx T (zLex T 0))
  have refuse : ∀ (k : Nat) (tk : zTok) (I : zF2), zRl I0 A0 T tk I A → zIs (zWd I A t) 79 7 ∧ zCallI X 7 MX7_refuse [.ref 79, .int (nI k)] (zWd I A t) (fun x w => zBool x ∧ zPq I0 A0 T t (.inl (k, tk.2.1)) (some (.int x)) w) := fun k tk I h => by
    refine zvI1 ob_79 (v_refuse h k) (by decide) ?_
    rintro w1 ⟨I', rfl, hb⟩
    exact ⟨Or.inl rfl, rfl, I', A, rfl, hb⟩
  refine eX7_readHead _ _ (bX7_readHead_0 _ _ (zvRd ob_79 (v_isWord h (i := 0) (by decide)) (by decide) ?_))
  rw [zB_if]
  unfold zhd
  by_cases c1 : zisw T 0 (zLex T 0) = true
  · rw [if_pos c1, if_pos c1]
    refine k_adv h (by decide) (fun I1 h1 hf => ⟨_, fi_79_1.rd, ?_⟩)
    rw [h1.2.2.1.1]
    show if nI (znx T (zLex T 0)).1 = nI 2 then _ else _
    rw [zi_eq (by have := m1.1.2.2.2.2; omega) (by decide)]
    by_cases c2 : (znx T (zLex T 0)).1 = 2
    · rw [if_pos c2, if_pos c2]
      refine zvRd ob_79 (v_number h1 c2) (by decide) ?_
      show if nI (zva T (znx T (zLex T 0))) < nI 1 then _ else if nI (zva T (znx T (zLex T 0))) ≤ nI 8 then _ else _
      rw [zi_lt (by omega) (by decide), zi_le (by omega) (by decide)]
      by_cases c3 : zva T (znx T (zLex T 0)) < 1
      · rw [if_pos c3, if_neg (show ¬ (1 ≤ zva T (znx T (zLex T 0)) ∧ zva T (znx T (zLex T 0)) ≤ 8) by omega)]
        exact bX7_readHead_49 _ (refuse 2 _ _ h1)
      · rw [if_neg c3]
        by_cases c4 : zva T (znx T (zLex T 0)) ≤ 8
        · rw [if_pos c4, if_pos (show 1 ≤ zva T (znx T (zLex T 0)) ∧ zva T (znx T (zLex T 0)) ≤ 8 by omega)]
          refine zvV q17.ob (v_begin q17 c4) (by decide) ?_
          rintro w1 ⟨I2, A2, rfl, g1, g2⟩
          exact k_advC ⟨g2.rl h1, g1⟩ (by decide) (fun I3 h3 => ⟨rfl, I3, A2, rfl, h3⟩)
        · rw [if_neg c4, if_neg (show ¬ (1 ≤ zva T (znx T (zLex T 0)) ∧ zva T (znx T (zLex T 0)) ≤ 8) by omega)]
          exact bX7_readHead_49 _ (refuse 2 _ _ h1)
    · rw [if_neg c2, if_neg c2]
      exact refuse 1 _ _ h1
  · rw [if_neg c1, if_neg c1]
    exact refuse 1 _ _ h
theorem zhd_v {T : zBy} {tk : zTok} {x : zSl} (h : zhd T = .inr (tk, x)) : zTV T tk := by
  unfold zhd at h
  split at h
  · split at h
    · split at h
      · cases h
        exact (znx_v (znx_v (zLex_v (Nat.zero_le _)).1).1).1
      · cases h
    · cases h
  · cases h
theorem v_read (hT : zTp I A 75 76 400 T) : zEv X 8 0 0 MX7_read [.ref 79, .ref 17] (zWd I A t) (zPq I A T t (zParse T)) := by
  have h4 := hT.1
  refine eX7_read _ _ (bX7_read_0 _ _ ⟨_, fi_79_3.wr, _, fi_79_4.wr, _, fi_79_5.wr, ?_⟩)
  generalize hI3 : va_up (va_up (va_up I 79 (upd (I 79) 3 0)) 79 (upd (va_up I 79 (upd (I 79) 3 0) 79) 4 0)) 79 (upd (va_up (va_up I 79 (upd (I 79) 3 0)) 79 (upd (va_up I 79 (upd (I 79) 3 0) 79) 4 0) 79) 5 (-1)) = I3
  have f3 : I3 79 3 = nI 0 := by
    rw [← hI3]
    exact (zI9_ne _ _ (by decide)).trans ((zI9_ne _ _ (by decide)).trans (zI9_eq I _ _))
  have f4 : I3 79 4 = 0 := by
    rw [← hI3]
    exact (zI9_ne _ _ (by decide)).trans (zI9_eq _ _ _)
  have f5 : I3 79 5 = -1 := by
    rw [← hI3]
    exact zI9_eq _ _ _
  have fp : ∀ p, p ≠ 79 → I3 p = I p := fun p hp => by
    rw [← hI3, zup_ne hp, zup_ne hp, zup_ne hp]
  have hT3 : zTp I3 A 75 76 400 T := ⟨hT.1, by rw [fp 75 (by decide)]; exact hT.2.1, hT.2.2⟩
  refine zvV ob_79 (v_advance hT3 f3 (Nat.zero_le _)) (by decide) ?_
  rintro w1 ⟨I4, rfl, hc, hf⟩
  have hv0 := (zLex_v (T := T) (Nat.zero_le T.1)).1
  have hl : zRl I A T (zLex T 0) I4 A := ⟨hv0, hf.tp hT3, hc, fun p hp => ⟨rfl, fun h9 => (hf.1 p h9).trans (fp p h9)⟩, hf.2.1.trans f4, hf.2.2.trans f5⟩
  refine zvQ (v_head hl) (by decide) (fun f I' A' e hb => ?_) (fun tk x I5 A5 e h5 => ?_)
  · rw [if_pos rfl]
    unfold zParse
    rw [e]
    exact ⟨rfl, I', A', rfl, hb⟩
  · rw [if_neg (by decide)]
    have etw : zEv X 5 0 0 MX7_readTwos [.ref 79, .ref 17] (zWd I5 A5 t) (zPq I A T t (zbd (zts T 401 58 tk x) (zsc T))) := by
      refine eX7_readTwos _ _ (bX7_readTwos_0 _ _ (zvRd ob_79 (v_isSign (c := 58) h5.1 (by decide)) (by decide) ?_))
      exact v_twosL 401 58 tk x I5 A5 0 (by decide) (by omega) (Nat.zero_le _) h5
    have eP : zParse T = zbd (zbd (zts T 401 58 tk x) (zsc T)) (zrs T 401) := by
      unfold zParse
      rw [e]
      rfl
    rw [eP]
    refine zvQ etw (by decide) (fun f I' A' e hb => ?_) (fun tk2 x2 I6 A6 e h6 => ?_)
    · rw [if_pos rfl, e]
      exact ⟨rfl, I', A', rfl, hb⟩
    · rw [if_neg (by decide), e]
      have erw : zEv X 7 0 0 MX7_readRows [.ref 79, .ref 17] (zWd I6 A6 t) (zPq I A T t (zrs T 401 tk2 x2)) := eX7_readRows _ _ (bX7_readRows_0 _ _ (v_rowsL 401 tk2 x2 I6 A6 0 (by omega) (Nat.zero_le _) h6))
      have eR : zbd (.inr (tk2, x2)) (zrs T 401) = zrs T 401 tk2 x2 := rfl
      rw [eR]
      refine zvQ erw (by decide) (fun f I' A' e hb => ?_) (fun tk3 x3 I7 A7 e h7 => ?_)
      · rw [if_pos rfl, e]
        exact ⟨rfl, I', A', rfl, hb⟩
      · rw [if_neg (by decide), e]
        exact ⟨rfl, I7, A7, rfl, h7⟩
end ZR3
