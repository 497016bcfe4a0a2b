/-! ===== told: the model's order ===== -/
theorem zro_r {T : zBy} {tk tk' : zTok} {x x' : zSl} (hv : zTV T tk) (h : zro T tk x = .inr (tk', x')) : zTV T tk' ∧ tk.2.2 ≤ tk'.2.1 ∧ x'.1 = x.1 := by
  have m1 := znx_v hv
  have m2 := znx_v m1.1
  unfold zro at h
  split at h
  · split at h
    · split at h
      · have m3 := zsc_r m2.1 h
        refine ⟨m3.1, ?_, by rw [m3.2.2]; rfl⟩
        have q1 := m1.1.1
        have q2 := m2.1.1
        have q3 := m3.2.1
        omega
      · cases h
    · cases h
  · cases h
theorem zrs_e (T : zBy) (k : Nat) (tk : zTok) (x : zSl) : zrs T (k + 1) tk x = if tk.1 = 0 then .inr (tk, x) else if zisw T 1 tk = true then (match zro T tk x with | .inl f => .inl f | .inr (tk', x') => zrs T k tk' x') else .inl (1, tk.2.1) := by
  conv => lhs; unfold zrs
  unfold zro
  by_cases c0 : tk.1 = 0
  · rw [if_pos c0, if_pos c0]
  · rw [if_neg c0, if_neg c0]
    by_cases c1 : zisw T 1 tk = true
    · rw [if_pos c1, if_pos c1]
      by_cases c2 : x.2.2.1 < 6
      · rw [if_pos c2, if_pos c2]
        by_cases c3 : (znx T tk).1 = 2
        · rw [if_pos c3, if_pos c3]
          by_cases c4 : zrok T x.1 (znx T tk) = true
          · rw [if_pos c4, if_pos c4]
            generalize zsc T (znx T (znx T tk)) (zadd T x (znx T tk).2.1) = o
            rcases o with f | ⟨a, b⟩
            · rfl
            · rfl
          · rw [if_neg c4, if_neg c4]
        · rw [if_neg c3, if_neg c3]
      · rw [if_neg c2, if_neg c2]
    · rw [if_neg c1, if_neg c1]
theorem zFe_v {m : Nat} (hm : m ≤ 8) : zVl (zFe m) := by
  refine ⟨⟨hm, fun b => Nat.two_pow_pos _, fun _ _ => rfl, fun a => ?_, fun a b c h => ?_⟩, ⟨by show 0 ≤ 6; decide, fun r i hr => absurd hr (Nat.not_lt_zero _), fun r i j hr => absurd hr (Nat.not_lt_zero _), fun _ _ _ => rfl⟩, fun _ => rfl⟩
  · show (0 : Nat).testBit a = false
    exact Nat.zero_testBit a
  · have h : (0 : Nat).testBit a = true := h
    rw [Nat.zero_testBit] at h
    cases h
section ZMo
variable {X : zX} {I A I0 A0 : zF2} {t : zW} {T : zBy} {tk : zTok} {d s : Nat} {kp : Nat × Nat} {S : Nat → zSl} {x : zSl}
theorem zvP {o : zOc} {N : zM} {av : List Value} {d1 : Nat} {K : zW → Prop} (ev : zEv X d1 0 0 N av (zWd I A t) (zPm I0 A0 T S s t o)) (hd : d1 < d) (k0 : ∀ f I' A', o = .inl f → zBm I0 A0 f I' A' → K (zWd I' A' t)) (k1 : ∀ tk x I' A', o = .inr (tk, x) → zRm I0 A0 T S s tk x I' A' → K (zWd I' A' t)) : zIs (zWd I A t) 98 11 ∧ zCallV X d N av (zWd I A t) K := by
  cases o with
  | inl f =>
    refine zvV ob_98 (P := fun w1 => ∃ I' A', w1 = zWd I' A' t ∧ zBm I0 A0 f I' A') ev hd ?_
    rintro w1 ⟨I', A', rfl, hb⟩
    exact k0 f I' A' rfl hb
  | inr o =>
    refine zvV ob_98 (P := fun w1 => ∃ I' A', w1 = zWd I' A' t ∧ zRm I0 A0 T S s o.1 o.2 I' A') ev hd ?_
    rintro w1 ⟨I', A', rfl, hb⟩
    exact k1 o.1 o.2 I' A' rfl hb
theorem m_badO83 (h : zBm I0 A0 kp I A) : zRn X 7 0 0 MX12_readsOrder 83 [some (.ref 98), some (.int (nI s)), none] [] (zWd I A t) (zPm I0 A0 T S s t (.inl kp)) := by
  refine bX12_readsOrder_83 _ _ ⟨_, fi_98_12.rd, ?_⟩
  rw [h.2.2.2, if_neg (by decide)]
  exact ⟨rfl, I, A, rfl, h⟩
theorem m_badO73 (h : zBm I0 A0 kp I A) : zRn X 7 0 0 MX12_readsOrder 73 [some (.ref 98), some (.int (nI s)), none] [] (zWd I A t) (zPm I0 A0 T S s t (.inl kp)) := bX12_readsOrder_73 _ _ (zvRd ob_98 (m_isSignB h _) (by decide) (n_mustB h _ (by decide) (m_badO83 h)))
theorem m_badO52 (h : zBm I0 A0 kp I A) : zRn X 7 0 0 MX12_readsOrder 52 [some (.ref 98), some (.int (nI s)), none] [] (zWd I A t) (zPm I0 A0 T S s t (.inl kp)) := by
  refine bX12_readsOrder_52 _ _ (zvRd ob_98 (m_isSignB h _) (by decide) ?_)
  rw [zB_f rfl]
  exact m_badO73 h
theorem m_rowsL (hs : s < 3) : ∀ k tk x I A, T.1 < tk.2.1 + k → zRm I0 A0 T S s tk x I A → zRn X 7 0 0 MX12_readsOrder 83 [some (.ref 98), some (.int (nI s)), none] [] (zWd I A t) (zPm I0 A0 T S s t (zrs T k tk x))
  | 0, tk, x, I, A, hk, h => by
    have h1 := h.1.1.1
    have h2 := h.1.1.2.1
    omega
  | k + 1, tk, x, I, A, hk, h => by
    have hv := h.1.1
    have hkd := hv.2.2.2.2
    rw [zrs_e]
    refine bX12_readsOrder_83 _ _ ⟨_, fi_98_12.rd, ?_⟩
    rw [h.1.2.2.2.2.2.2, if_pos rfl]
    refine ⟨_, fi_98_10.rd, ?_⟩
    rw [h.1.2.2.1.1]
    show if nI tk.1 = nI 0 then _ else _
    rw [zi_eq (by omega) (by decide)]
    by_cases c0 : tk.1 = 0
    · rw [if_pos c0, if_pos c0]
      exact ⟨rfl, I, A, rfl, h⟩
    · have hlt := hv.2.2.1 c0
      rw [if_neg c0, if_neg c0]
      refine zvRd ob_98 (m_isWord h.1 (i := 1) (by decide)) (by decide) ?_
      rw [zB_if]
      by_cases c1 : zisw T 1 tk = true
      · rw [if_pos c1, if_pos c1]
        refine zvP (m_row hs h) (by decide) (fun f I' A' e hb => ?_) (fun tk' x' I' A' e h' => ?_)
        · rw [e]
          exact m_badO83 hb
        · rw [e]
          have m := zro_r hv e
          exact m_rowsL hs k tk' x' I' A' (by omega) h'
      · rw [if_neg c1, if_neg c1]
        exact n_faults h.1 1 (by decide) (fun I' hb => m_badO83 hb)
theorem m_semi (hs : s < 3) (h : zRm I0 A0 T S s tk x I A) : zRn X 7 0 0 MX12_readsOrder 73 [some (.ref 98), some (.int (nI s)), none] [] (zWd I A t) (zPm I0 A0 T S s t (zbd (zsc T tk x) (zrs T 401))) := by
  have t1 := h.1.2.1.1
  refine bX12_readsOrder_73 _ _ (zvRd ob_98 (m_isSign (c := 59) h.1 (by decide)) (by decide) ?_)
  unfold zsc
  by_cases cs : zsgn T 59 tk = true
  · rw [if_pos cs]
    refine n_mustT h.1 cs (by decide) (fun I1 q1 => ?_)
    exact m_rowsL hs 401 _ _ _ _ (by omega) ⟨q1, h.2⟩
  · rw [if_neg cs]
    rw [Bool.not_eq_true] at cs
    exact n_mustF h.1 cs (by decide) (fun I1 hb => m_badO83 hb)
theorem m_twosL (hs : s < 3) : ∀ k tk x I A, T.1 < tk.2.1 + k → 1 ≤ x.1 → zRm I0 A0 T S s tk x I A → zRn X 7 0 0 MX12_readsOrder 52 [some (.ref 98), some (.int (nI s)), none] [] (zWd I A t) (zPm I0 A0 T S s t (zbd (zbd (zts T k 44 tk x) (zsc T)) (zrs T 401)))
  | 0, tk, x, I, A, hk, hn, h => by
    have h1 := h.1.1.1
    have h2 := h.1.1.2.1
    omega
  | k + 1, tk, x, I, A, hk, hn, h => by
    refine bX12_readsOrder_52 _ _ (zvRd ob_98 (m_isSign (c := 44) h.1 (by decide)) (by decide) ?_)
    rw [zB_if]
    unfold zts
    by_cases cs : zsgn T 44 tk = true
    · have hsg := zsgn_k h.1.1 cs
      rw [if_pos cs, if_pos cs]
      refine n_next h.1 (by decide) (fun I1 q1 => ?_)
      have m1 := znx_v h.1.1
      refine zvP (m_climb hs ⟨q1, h.2⟩ hn) (by decide) (fun f I' A' e hb => ?_) (fun tk' x' I' A' e h' => ?_)
      · rw [e]
        exact m_badO52 hb
      · rw [e]
        have m2 := zcli_r m1.1 e
        have m3 := m1.1.1
        have m4 := zcli_n e
        exact m_twosL hs k tk' x' I' A' (by omega) (by omega) h'
    · rw [if_neg cs, if_neg cs]
      exact m_semi hs h
theorem m_order (hs : s < 3) (h : zQl I0 A0 T (zLex T 0) I A) (hg : zSg A (zEs S)) : zEv X 7 0 0 MX12_readsOrder [.ref 98, .int (nI s)] (zWd I A t) (zPm I0 A0 T S s t (zParse T)) := by
  have t1 := h.2.1.1
  have hv := h.1
  have m1 := znx_v hv
  have hva := zva_le T (znx T (zLex T 0))
  refine eX12_readsOrder _ _ (bX12_readsOrder_0 _ _ (zvRd ob_98 (m_isWord h (i := 0) (by decide)) (by decide) ?_))
  unfold zParse zhd
  by_cases c1 : zisw T 0 (zLex T 0) = true
  · rw [if_pos c1]
    refine n_mustT h c1 (by decide) (fun I1 q1 => ?_)
    show zIs _ 98 11 ∧ zCallI X 7 MX12_here [.ref 98, .int (nI 1), .int (nI 8)] _ _
    refine n_here q1 (by decide) (by decide) (by decide) (fun f I' hf hb => ?_) (fun c2 c3 => ?_)
    · have e : (if (znx T (zLex T 0)).1 = 2 then (if 1 ≤ zva T (znx T (zLex T 0)) ∧ zva T (znx T (zLex T 0)) ≤ 8 then (Sum.inr (znx T (znx T (zLex T 0)), zFe (zva T (znx T (zLex T 0)))) : zOc) else .inl (2, (znx T (zLex T 0)).2.1)) else .inl (1, (znx T (zLex T 0)).2.1)) = .inl (f, (znx T (zLex T 0)).2.1) := by
        rcases hf with ⟨rfl, c⟩ | ⟨rfl, c, c2⟩
        · rw [if_neg c]
        · rw [if_pos c, if_neg c2]
      rw [e]
      refine n_passesB hb (by decide) (zvV ob_98 (m_empties hs) (by decide) ?_)
      rintro w1 ⟨D, rfl, -, -⟩
      refine zvV ob_98 (m_lays (k := 0) hs (by decide) _) (by decide) ?_
      rintro w1 rfl
      have hb2 := (hb.a D).a (upd (va_up A 99 D 99) (58 * s + 0) (nI 1))
      refine zvRd ob_98 (m_isSignB hb2 _) (by decide) ?_
      rw [zB_f rfl]
      exact m_badO73 hb2
    · rw [if_pos c2, if_pos c3]
      refine n_passes q1 (by decide) (fun I2 q2 => zvV ob_98 (m_empties hs) (by decide) ?_)
      rintro w1 ⟨D, rfl, d1, d2⟩
      refine zvV ob_98 (m_lays (k := 0) hs (by decide) _) (by decide) ?_
      rintro w1 rfl
      rw [zup_eq, bx_uu]
      have h3 : zRm I0 A0 T S s (znx T (znx T (zLex T 0))) (zFe (zva T (znx T (zLex T 0)))) I2 (va_up A 99 (upd D (58 * s + 0) (nI (zva T (znx T (zLex T 0)))))) := by
        refine ⟨q2.a _, zSg_put (A := A) hg (fun k hk => ?_) (fun j hj => ?_), zFe_v c3.2⟩
        · rw [zup_eq]
          refine zcell hk (P := fun k => upd D (58 * s + 0) (nI (zva T (znx T (zLex T 0)))) (58 * s + k) = nI (zEn (zFe (zva T (znx T (zLex T 0)))) k)) ?_ (fun c hc => ?_) ?_ (fun r i hr hi => ?_)
          · rw [upd_eq]
            rfl
          · rw [upd_ne _ _ (by omega), d1 _ (by omega), zEn_u hc]
            rfl
          · rw [upd_ne _ _ (by omega), d1 _ (by omega)]
            rfl
          · rw [upd_ne _ _ (by omega), d1 _ (by omega), zEn_h hi]
            rfl
        · rw [zup_eq, upd_ne _ _ (by omega)]
          exact d2 j hj
      have m2 := znx_v m1.1
      refine zvRd ob_98 (m_isSign (c := 58) h3.1 (by decide)) (by decide) ?_
      rw [zB_if]
      show if _ then _ else _
      have eP : zbd (zbd (zbd (.inr (znx T (znx T (zLex T 0)), zFe (zva T (znx T (zLex T 0))))) (zts T 401 58)) (zsc T)) (zrs T 401) = zbd (zbd (zts T 401 58 (znx T (znx T (zLex T 0))) (zFe (zva T (znx T (zLex T 0))))) (zsc T)) (zrs T 401) := rfl
      rw [eP]
      unfold zts
      by_cases cs : zsgn T 58 (znx T (znx T (zLex T 0))) = true
      · have hsg := zsgn_k h3.1.1 cs
        rw [if_pos cs, if_pos cs]
        refine n_next h3.1 (by decide) (fun I4 q4 => ?_)
        have m3 := znx_v h3.1.1
        refine zvP (m_climb hs ⟨q4, h3.2⟩ c3.1) (by decide) (fun f I' A' e hb => ?_) (fun tk' x' I' A' e h' => ?_)
        · rw [e]
          exact m_badO52 hb
        · rw [e]
          have m4 := zcli_r m3.1 e
          have m5 := m3.1.1
          have m6 := zcli_n e
          have m7 : (zFe (zva T (znx T (zLex T 0)))).1 = zva T (znx T (zLex T 0)) := rfl
          exact m_twosL hs 400 tk' x' I' A' (by omega) (by omega) h'
      · rw [if_neg cs, if_neg cs]
        exact m_semi hs h3
  · rw [if_neg c1]
    rw [Bool.not_eq_true] at c1
    refine n_mustF h c1 (by decide) (fun I' hb => n_hereB hb _ _ (by decide) (n_passesB hb (by decide) (zvV ob_98 (m_empties hs) (by decide) ?_)))
    rintro w1 ⟨D, rfl, -, -⟩
    refine zvV ob_98 (m_lays (k := 0) hs (by decide) _) (by decide) ?_
    rintro w1 rfl
    have hb2 := (hb.a D).a (upd (va_up A 99 D 99) (58 * s + 0) 1)
    refine zvRd ob_98 (m_isSignB hb2 _) (by decide) ?_
    rw [zB_f rfl]
    exact m_badO73 hb2
end ZMo
