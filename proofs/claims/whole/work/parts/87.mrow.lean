/-! ===== told: the model's rows ===== -/
def zro (T : zBy) (tk : zTok) (x : zSl) : zOc := if x.2.2.1 < 6 then
    (if (znx T tk).1 = 2 then
      (if zrok T x.1 (znx T tk) = true then zsc T (znx T (znx T tk)) (zadd T x (znx T tk).2.1) else .inl (4, (znx T tk).2.1))
    else .inl (1, (znx T tk).2.1))
  else .inl (5, tk.2.1)
section ZMr
variable {X : zX} {I A I0 A0 : zF2} {t : zW} {T : zBy} {tk : zTok} {d s : Nat} {kp : Nat × Nat} {S : Nat → zSl} {x : zSl}
theorem m_bad214 (h : zBm I0 A0 kp I A) : zRn X 6 0 0 MX12_readsRow 214 [some (.ref 98), some (.int (nI s)), none, none, none, none] [] (zWd I A t) (zPm I0 A0 T S s t (.inl kp)) := by
  refine bX12_readsRow_214 _ _ (n_passesB h (by decide) (zvRd ob_98 (m_isSignB h _) (by decide) (n_mustB h _ (by decide) ⟨_, fi_98_12.rd, ?_⟩)))
  rw [h.2.2.2, if_neg (by decide)]
  exact ⟨rfl, I, A, rfl, h⟩
theorem m_bad154 (hs : s < 3) (h : zBm I0 A0 kp I A) : zRn X 6 0 0 MX12_readsRow 154 [some (.ref 98), some (.int (nI s)), none, none, none, none] [] (zWd I A t) (zPm I0 A0 T S s t (.inl kp)) := by
  refine bX12_readsRow_154 _ _ (bX12_readsRow_157 _ _ _ (zvRd ob_98 (r_manyX hs) (by decide) ?_))
  split
  · exact m_bad214 h
  · refine ⟨_, fi_98_12.rd, ?_⟩
    rw [h.2.2.2, if_neg (by decide)]
    exact m_bad214 h
theorem m_row (hs : s < 3) (h : zRm I0 A0 T S s tk x I A) : zEv X 6 0 0 MX12_readsRow [.ref 98, .int (nI s)] (zWd I A t) (zPm I0 A0 T S s t (zro T tk x)) := by
  obtain ⟨hq, hg, hv⟩ := h
  have h8 := hv.1.1
  have h6 := hv.2.1.1
  have t1 := hq.2.1.1
  have H := hg.mr hs hv
  refine eX12_readsRow _ _ (bX12_readsRow_0 _ _ (zvRd ob_98 (m_rows H) (by decide) ?_))
  show if nI x.2.2.1 = nI 6 then _ else _
  rw [zi_eq (by omega) (by decide)]
  unfold zro
  by_cases cR : x.2.2.1 = 6
  · rw [if_pos cR, if_neg (show ¬ x.2.2.1 < 6 by omega)]
    refine n_faults hq 5 (by decide) (fun I' hb => bX12_readsRow_15 _ _ (n_passesB hb (by decide) ⟨_, fi_98_12.rd, ?_⟩))
    rw [hb.2.2.2, if_neg (by decide)]
    exact ⟨rfl, I', A, rfl, hb⟩
  · have hR : x.2.2.1 < 6 := by omega
    rw [if_neg cR, if_pos hR]
    refine bX12_readsRow_15 _ _ (n_passes hq (by decide) (fun I1 q1 => ⟨_, fi_98_12.rd, ?_⟩))
    have m1 := znx_v hq.1
    have hs1 := m1.1.1
    have hs2 := m1.1.2.1
    have hc := q1.2.2.1
    rw [q1.2.2.2.2.2.2, if_pos rfl]
    refine ⟨_, fi_98_8.rd, _, fi_98_9.rd, zvRd ob_98 (m_many H) (by decide) ?_⟩
    rw [hc.2.2.1, hc.2.1, pk_sub hs1, zi_eq (by omega) (by omega)]
    have part2 : zRn X 6 0 0 MX12_readsRow 51 [some (.ref 98), some (.int (nI s)), some (.int 0), none, none, none] [.int (zB (decide ((znx T tk).2.2 - (znx T tk).2.1 = x.1)))] (zWd I1 A t) (zPm I0 A0 T S s t (if (znx T tk).1 = 2 then (if zrok T x.1 (znx T tk) = true then zsc T (znx T (znx T tk)) (zadd T x (znx T tk).2.1) else .inl (4, (znx T tk).2.1)) else .inl (1, (znx T tk).2.1))) := by
      refine bX12_readsRow_51 _ _ _ _ ⟨_, fi_98_9.rd, ?_⟩
      rw [hc.2.1]
      have hkd := m1.1.2.2.2.2
      by_cases c2 : (znx T tk).1 = 2
      · rw [if_pos c2]
        have hdg := m1.1.2.2.2.1 c2
        have hlt := zrk_lt (T := T) (n := x.1) (s := (znx T tk).2.1) (l := (znx T tk).2.2 - (znx T tk).2.1) (fun j hj => (hdg ((znx T tk).2.1 + j) (by omega) (by omega)).2)
        have fin : zRn X 6 0 0 MX12_readsRow 129 [some (.ref 98), some (.int (nI s)), none, some (.int (zB (zrok T x.1 (znx T tk)))), none, none] [] (zWd I1 A t) (zPm I0 A0 T S s t (if zrok T x.1 (znx T tk) = true then zsc T (znx T (znx T tk)) (zadd T x (znx T tk).2.1) else .inl (4, (znx T tk).2.1))) := by
          refine bX12_readsRow_129 _ _ _ ⟨_, fi_98_10.rd, ?_⟩
          rw [hc.1]
          show if nI (znx T tk).1 = nI 2 then _ else _
          rw [zi_eq (by omega) (by decide), if_pos c2, zB_if]
          by_cases ck : zrok T x.1 (znx T tk) = true
          · rw [if_pos ck, if_pos ck]
            obtain ⟨hl, hH⟩ := zrok_ho ck hv.2.1 hR
            refine bX12_readsRow_154 _ _ ?_
            have e0 : ∀ k, k < 58 → A 99 (58 * s + k) = nI (zEn x k) := fun k hk => by
              rw [hg _ (by omega), zEs_up _ _ _ _ hk]
            have key : ∀ i, i ≤ x.1 → ∀ D : Nat → Int32, (∀ j, j < i → D (58 * s + 10 + 8 * x.2.2.1 + j) = nI (T.2 ((znx T tk).2.1 + j) - 48)) → (∀ j, (j < 58 * s + 10 + 8 * x.2.2.1 ∨ 58 * s + 10 + 8 * x.2.2.1 + i ≤ j) → D j = A 99 j) → zRn X 6 0 0 MX12_readsRow 157 [some (.ref 98), some (.int (nI s)), none, none, some (.int (nI i)), none] [] (zWd I1 (va_up A 99 D) t) (zPm I0 A0 T S s t (zsc T (znx T (znx T tk)) (zadd T x (znx T tk).2.1))) := by
              refine zdown ?_ ?_
              · intro D d1 d2
                have q2 := q1.a D
                have hmany : va_up A 99 D 99 (58 * s) = nI x.1 := by
                  rw [zup_eq, d2 _ (by omega)]
                  exact e0 0 (by decide)
                have hrows : va_up A 99 D 99 (58 * s + 9) = nI x.2.2.1 := by
                  rw [zup_eq, d2 _ (by omega)]
                  exact e0 9 (by decide)
                refine bX12_readsRow_157 _ _ _ (zvRd ob_98 (r_many hs hmany) (by decide) ?_)
                rw [if_pos (Int32.le_refl _)]
                refine bX12_readsRow_214 _ _ (n_passes q2 (by decide) (fun I3 q3 => zvRd ob_98 (m_isSign (c := 59) q3 (by decide)) (by decide) ?_))
                unfold zsc
                by_cases cs : zsgn T 59 (znx T (znx T tk)) = true
                · rw [if_pos cs]
                  refine n_mustT q3 cs (by decide) (fun I4 q4 => ⟨_, fi_98_12.rd, ?_⟩)
                  rw [q4.2.2.2.2.2.2, if_pos rfl]
                  refine zvRd ob_98 (r_rows hs hrows) (by decide) ?_
                  rw [nI_1]
                  refine zvV ob_98 (m_lays (k := 9) hs (by decide) _) (by decide) ?_
                  rintro w1 rfl
                  rw [zup_eq, bx_uu]
                  refine ⟨rfl, I4, _, rfl, ?_, ?_, ⟨hv.1, hH, fun e => by have : x.1 = 0 := e; have := c2; exact absurd (m1.1.2.2.1 (by omega)) (by omega)⟩⟩
                  · have := q4.a (upd D (58 * s + 9) (nI (x.2.2.1 + 1)))
                    rw [bx_uu] at this
                    exact this
                  · have := zSg_put (A' := va_up A 99 (upd D (58 * s + 9) (nI (x.2.2.1 + 1)))) (s := s) (y := zadd T x (znx T tk).2.1) hg (fun k hk => ?_) (fun j hj => ?_)
                    · rw [bx_uu] at this
                      exact this
                    · rw [zup_eq]
                      refine zcell hk (P := fun k => upd D (58 * s + 9) (nI (x.2.2.1 + 1)) (58 * s + k) = nI (zEn (zadd T x (znx T tk).2.1) k)) ?_ (fun c hc => ?_) ?_ (fun r i hr hi => ?_)
                      · rw [upd_ne _ _ (by omega), d2 _ (by omega)]
                        exact e0 0 (by decide)
                      · rw [upd_ne _ _ (by omega), d2 _ (by omega), e0 _ (by omega), zEn_u hc, zEn_u hc]
                        rfl
                      · rw [upd_eq]
                        rfl
                      · rw [upd_ne _ _ (by omega), zEn_h hi]
                        show _ = nI (if r = x.2.2.1 then (if i < x.1 then T.2 ((znx T tk).2.1 + i) - 48 else 0) else x.2.2.2 r i)
                        by_cases cr : r = x.2.2.1
                        · rw [if_pos cr]
                          by_cases ci : i < x.1
                          · rw [if_pos ci, cr]
                            have := d1 i ci
                            rw [show 58 * s + 10 + 8 * x.2.2.1 + i = 58 * s + (10 + 8 * x.2.2.1 + i) by omega] at this
                            exact this
                          · rw [if_neg ci, d2 _ (by omega), e0 _ (by omega), zEn_h hi, hv.2.1.2.2.2 r i (by omega)]
                        · rw [if_neg cr, d2 _ (by omega), e0 _ (by omega), zEn_h hi]
                    · rw [zup_eq, upd_ne _ _ (by omega)]
                      exact d2 j (by omega)
                · rw [if_neg cs]
                  rw [Bool.not_eq_true] at cs
                  refine n_mustF q3 cs (by decide) (fun I4 hb => ⟨_, fi_98_12.rd, ?_⟩)
                  rw [hb.2.2.2, if_neg (by decide)]
                  exact ⟨rfl, I4, _, rfl, hb⟩
              · intro i hi ih D d1 d2
                have hd := hdg ((znx T tk).2.1 + i) (by omega) (by omega)
                have hmany : va_up A 99 D 99 (58 * s) = nI x.1 := by
                  rw [zup_eq, d2 _ (by omega)]
                  exact e0 0 (by decide)
                have hrows : va_up A 99 D 99 (58 * s + 9) = nI x.2.2.1 := by
                  rw [zup_eq, d2 _ (by omega)]
                  exact e0 9 (by decide)
                refine bX12_readsRow_157 _ _ _ (zvRd ob_98 (r_many hs hmany) (by decide) ?_)
                rw [zi_le (by omega) (by omega), if_neg (by omega)]
                refine ⟨_, fi_98_12.rd, ?_⟩
                rw [q1.2.2.2.2.2.2, if_pos rfl]
                refine zvRd ob_98 (r_rows hs hrows) (by decide) ⟨_, fr_98_4.rd, _, fi_98_9.rd, nI (T.2 ((znx T tk).2.1 + i)), ?_, ?_⟩
                · rw [hc.2.1, nI_add, ar_102.rd (by omega), zup_ne (by decide)]
                  exact congrArg some (q1.2.1.2.2 _ (by omega)).1
                · have e1 : nI (T.2 ((znx T tk).2.1 + i)) - 48 = nI (T.2 ((znx T tk).2.1 + i) - 48) := pk_sub (b := 48) hd.1
                  have e2 : (10 : Int32) + (8 : Int32) * nI x.2.2.1 + nI i = nI (10 + 8 * x.2.2.1 + i) := by
                    show nI 10 + nI 8 * nI _ + nI i = _
                    rw [pk_mul, nI_add, nI_add]
                  rw [e1, e2]
                  refine zvV ob_98 (m_lays hs (by omega) _) (by decide) ?_
                  rintro w1 rfl
                  rw [zup_eq, bx_uu, nI_1]
                  refine ih _ (fun j hj => ?_) (fun j hj => ?_)
                  · by_cases c : j = i
                    · rw [c, show 58 * s + 10 + 8 * x.2.2.1 + i = 58 * s + (10 + 8 * x.2.2.1 + i) by omega, upd_eq]
                    · rw [upd_ne _ _ (by omega)]
                      exact d1 j (by omega)
                  · rw [upd_ne _ _ (by omega)]
                    exact d2 j (by omega)
            have k0 := key 0 (Nat.zero_le _) (A 99) (fun j hj => absurd hj (Nat.not_lt_zero _)) (fun _ _ => rfl)
            rw [zup_self] at k0
            exact k0
          · rw [if_neg ck, if_neg ck]
            exact n_faults q1 4 (by decide) (fun I' hb => m_bad154 hs hb)
        have loop : ∀ i, i ≤ (znx T tk).2.2 - (znx T tk).2.1 → zRn X 6 0 0 MX12_readsRow 58 [some (.ref 98), some (.int (nI s)), some (.int (nI (zrk T x.1 (znx T tk).2.1 ((znx T tk).2.2 - (znx T tk).2.1) i).2)), some (.int (zB (zrk T x.1 (znx T tk).2.1 ((znx T tk).2.2 - (znx T tk).2.1) i).1)), some (.int (nI ((znx T tk).2.1 + i))), none] [] (zWd I1 A t) (zPm I0 A0 T S s t (if zrok T x.1 (znx T tk) = true then zsc T (znx T (znx T tk)) (zadd T x (znx T tk).2.1) else .inl (4, (znx T tk).2.1))) := by
          refine zdown ?_ ?_
          · refine bX12_readsRow_58 _ _ _ _ _ ⟨_, fi_98_8.rd, ?_⟩
            rw [hc.2.2.1, show (znx T tk).2.1 + ((znx T tk).2.2 - (znx T tk).2.1) = (znx T tk).2.2 by omega, if_pos (Int32.le_refl _)]
            exact fin
          · intro i hi ih
            have hd := hdg ((znx T tk).2.1 + i) (by omega) (by omega)
            have hl := hlt i (by omega)
            have e1 : nI (T.2 ((znx T tk).2.1 + i)) - 48 = nI (T.2 ((znx T tk).2.1 + i) - 48) := pk_sub (b := 48) hd.1
            have en : zrk T x.1 (znx T tk).2.1 ((znx T tk).2.2 - (znx T tk).2.1) (i + 1) = ((zrk T x.1 (znx T tk).2.1 ((znx T tk).2.2 - (znx T tk).2.1) i).1 && (decide (T.2 ((znx T tk).2.1 + i) - 48 < x.1) && !(zrk T x.1 (znx T tk).2.1 ((znx T tk).2.2 - (znx T tk).2.1) i).2.testBit (T.2 ((znx T tk).2.1 + i) - 48)), (zrk T x.1 (znx T tk).2.1 ((znx T tk).2.2 - (znx T tk).2.1) i).2 ||| 2 ^ (T.2 ((znx T tk).2.1 + i) - 48)) := rfl
            rw [en] at ih
            refine bX12_readsRow_58 _ _ _ _ _ ⟨_, fi_98_8.rd, ?_⟩
            rw [hc.2.2.1, zi_le (by omega) (by omega), if_neg (by omega)]
            refine ⟨_, fi_98_10.rd, ?_⟩
            rw [hc.1]
            show if nI (znx T tk).1 = nI 2 then _ else _
            rw [zi_eq (by omega) (by decide), if_pos c2]
            refine ⟨_, fr_98_4.rd, nI (T.2 ((znx T tk).2.1 + i)), by rw [ar_102.rd (by omega)]; exact congrArg some (q1.2.1.2.2 _ (by omega)).1, ?_⟩
            rw [e1]
            have hdg9 : T.2 ((znx T tk).2.1 + i) - 48 < 10 := by omega
            generalize zrk T x.1 (znx T tk).2.1 ((znx T tk).2.2 - (znx T tk).2.1) i = z at hl ih
            generalize T.2 ((znx T tk).2.1 + i) - 48 = dg at ih hdg9
            have go : ∀ b : Bool, b = (z.1 && (decide (dg < x.1) && !z.2.testBit dg)) → zRn X 6 0 0 MX12_readsRow 115 [some (.ref 98), some (.int (nI s)), some (.int (nI z.2)), none, some (.int (nI ((znx T tk).2.1 + i))), some (.int (nI dg))] [.int (zB b)] (zWd I1 A t) (zPm I0 A0 T S s t (if zrok T x.1 (znx T tk) = true then zsc T (znx T (znx T tk)) (zadd T x (znx T tk).2.1) else .inl (4, (znx T tk).2.1))) := by
              rintro b rfl
              refine bX12_readsRow_115 _ _ _ _ _ _ ?_
              rw [zb_1 _ (by omega), zb_or, nI_1]
              exact ih
            rw [zB_if]
            by_cases z1 : z.1 = true
            · rw [if_pos z1]
              refine zvRd ob_98 (m_many H) (by decide) ?_
              rw [zi_le (by omega) (by omega)]
              by_cases z2 : x.1 ≤ dg
              · rw [if_pos z2]
                exact bX12_readsRow_114 _ _ _ _ _ (go false (by rw [decide_eq_false (show ¬ dg < x.1 by omega), Bool.false_and, Bool.and_false]))
              · rw [if_neg z2]
                refine zcRd (m_has (by omega) (by omega)) (by decide) ?_
                rw [zB_if]
                by_cases z3 : z.2.testBit dg = true
                · rw [if_pos z3]
                  exact bX12_readsRow_114 _ _ _ _ _ (go false (by rw [z3, Bool.not_true, Bool.and_false, Bool.and_false]))
                · rw [if_neg z3]
                  rw [Bool.not_eq_true] at z3
                  exact go true (by rw [z1, z3, decide_eq_true (show dg < x.1 by omega)]; rfl)
            · rw [if_neg z1]
              rw [Bool.not_eq_true] at z1
              exact bX12_readsRow_114 _ _ _ _ _ (go false (by rw [z1, Bool.false_and]))
        have l0 := loop 0 (Nat.zero_le _)
        exact l0
      · rw [if_neg c2]
        have fin : ∀ b : Bool, zRn X 6 0 0 MX12_readsRow 129 [some (.ref 98), some (.int (nI s)), none, some (.int (zB b)), none, none] [] (zWd I1 A t) (zPm I0 A0 T S s t (.inl (1, (znx T tk).2.1))) := fun b => by
          refine bX12_readsRow_129 _ _ _ ⟨_, fi_98_10.rd, ?_⟩
          rw [hc.1]
          show if nI (znx T tk).1 = nI 2 then _ else _
          rw [zi_eq (by omega) (by decide), if_neg c2]
          exact n_faults q1 1 (by decide) (fun I' hb => m_bad154 hs hb)
        refine bX12_readsRow_58 _ _ _ _ _ ⟨_, fi_98_8.rd, ?_⟩
        split
        · exact fin _
        · refine ⟨_, fi_98_10.rd, ?_⟩
          rw [hc.1]
          show if nI (znx T tk).1 = nI 2 then _ else _
          rw [zi_eq (by omega) (by decide), if_neg c2]
          exact fin _
    by_cases cl : (znx T tk).2.2 - (znx T tk).2.1 = x.1
    · rw [if_pos cl]
      rw [decide_eq_true cl] at part2
      exact part2
    · rw [if_neg cl]
      rw [decide_eq_false cl] at part2
      exact part2
end ZMr
