/-! ===== told: the model's chains ===== -/
def zRm (I0 A0 : zF2) (T : zBy) (S : Nat → zSl) (s : Nat) (tk : zTok) (x : zSl) (I A : zF2) : Prop := zQl I0 A0 T tk I A ∧ zSg A (zEs (va_up S s x)) ∧ zVl x
def zPm (I0 A0 : zF2) (T : zBy) (S : Nat → zSl) (s : Nat) (t : zW) (o : zOc) : Option Value → zW → Prop := fun v w1 => v = none ∧ ∃ I' A', w1 = zWd I' A' t ∧ (match o with
  | .inl kp => zBm I0 A0 kp I' A'
  | .inr (tk, x) => zRm I0 A0 T S s tk x I' A')
theorem zSg.mr {A : zF2} {S : Nat → zSl} {s : Nat} {x : zSl} (h1 : zSg A (zEs (va_up S s x))) (hs : s < 3) (hv : zVl x) : zMR A s x.1 x.2.1 x.2.2.1 x.2.2.2 := by
  have g : ∀ k, k < 58 → A 99 (58 * s + k) = nI (zEn x k) := fun k hk => by
    rw [h1 _ (by omega), zEs_up _ _ _ _ hk]
  refine ⟨hs, hv.1, hv.2.1, ?_, fun b hb => ?_, ?_, fun r i hr hi => ?_⟩
  · exact g 0 (by decide)
  · have := g (1 + b) (by omega)
    rw [← Nat.add_assoc, zEn_u hb] at this
    exact this
  · exact g 9 (by decide)
  · have := g (10 + 8 * r + i) (by omega)
    rw [show 58 * s + (10 + 8 * r + i) = 58 * s + 10 + 8 * r + i by omega, zEn_h hi] at this
    exact this
theorem zchn_no {T : zBy} {tk : zTok} (h : zsgn T 60 tk = false) (a : Nat) (x : zSl) : ∀ k, zchn T k a tk x = .inr (tk, x)
  | 0 => rfl
  | k + 1 => by
    unfold zchn
    rw [if_neg (by rw [h]; decide)]
section ZMc
variable {X : zX} {I A I0 A0 : zF2} {t : zW} {T : zBy} {tk : zTok} {d s : Nat} {kp : Nat × Nat} {S : Nat → zSl} {x : zSl}
theorem m_isWord (h : zQl I0 A0 T tk I A) {i : Nat} (hi : i < 2) : zRd X 6 MX12_isWord [.ref 98, .ref (zTx i)] (zWd I A t) (zB (zisw T i tk)) := by
  obtain ⟨h1, h2, h3, h4, h5, h6, h7⟩ := h
  have hk := h1.2.2.2.2
  have t1 := h2.1
  obtain ⟨w1, w2⟩ := zkw_ok i hi
  have w3 := zsLen_lt i (by omega)
  have hs1 := h1.1
  have hs2 := h1.2.1
  have loop : ∀ b : Bool, (b = true → tk.2.2 - tk.2.1 = (zkw i).length) → zRn X 6 0 0 MX12_isWord 36 [some (.ref 98), some (.ref (zTx i)), none, none] [.int (zB b)] (zWd I A t) (fun v w1 => v = some (.int (zB (b && zall (zkw i).length (fun k => decide (T.2 (tk.2.1 + k) = (zkw i).getD k 0))))) ∧ w1 = zWd I A t) := by
    intro b hb
    refine bX12_isWord_36 _ _ _ ?_
    cases b with
    | false =>
      rw [Bool.false_and]
      refine bX12_isWord_39 _ _ _ _ ⟨by decide, _, zTL_tx (by omega), ?_⟩
      show if nI (zsLen.getD i 0) ≤ nI 0 then _ else _
      split
      · exact ⟨zB_ok _, rfl, rfl⟩
      · rw [zB_f rfl]
        exact ⟨zB_ok _, rfl, rfl⟩
    | true =>
      have hl := hb rfl
      rw [Bool.true_and]
      refine zloopA (R := fun k b => zRn X 6 0 0 MX12_isWord 39 [some (.ref 98), some (.ref (zTx i)), some (.int (zB true)), some (.int (nI k))] [] (zWd I A t) (fun v w1 => v = some (.int (zB b)) ∧ w1 = zWd I A t)) ?_ (fun k hk2 b e1 e2 => ?_)
      · refine bX12_isWord_39 _ _ _ _ ⟨by decide, _, zTL_tx (by omega), ?_⟩
        rw [w1, if_pos (Int32.le_refl _)]
        exact ⟨zB_ok _, rfl, rfl⟩
      · refine bX12_isWord_39 _ _ _ _ ⟨by decide, _, zTL_tx (by omega), ?_⟩
        rw [← w1, zi_le (by omega) (by omega), if_neg (by omega), zB_t rfl]
        have hb := h2.2.2 (tk.2.1 + k) (by omega)
        have e : (nI k).toNatClampNeg = k := nI_clamp (by omega)
        have b1 := w2 k hk2
        refine ⟨_, fr_98_4.rd, _, fi_98_9.rd, nI (T.2 (tk.2.1 + k)), ?_, by decide, _, zTC_tx (by omega) ?_, ?_⟩
        · rw [h3.2.1, nI_add, ar_102.rd (by omega), hb.1]
        · unfold vp_in
          rw [e]
          rintro (q | q)
          · exact nI_pos (by omega) q
          · omega
        · have := hb.2
          rw [e, b1.1, zi_eq (by omega) (by omega)]
          by_cases cc : T.2 (tk.2.1 + k) = (zkw i).getD k 0
          · rw [if_pos cc]
            refine bX12_isWord_75 _ _ _ _ ?_
            rw [nI_1]
            exact e1 (decide_eq_true cc)
          · rw [if_neg cc, e2 (decide_eq_false cc)]
            refine bX12_isWord_75 _ _ _ _ (bX12_isWord_39 _ _ _ _ ⟨by decide, _, zTL_tx (by omega), ?_⟩)
            split
            · exact ⟨Or.inl rfl, rfl, rfl⟩
            · rw [if_pos rfl]
              exact ⟨Or.inl rfl, rfl, rfl⟩
  refine eX12_isWord _ _ (bX12_isWord_0 _ _ ⟨_, fi_98_12.rd, ?_⟩)
  rw [h7, if_pos rfl]
  refine ⟨_, fi_98_10.rd, ?_⟩
  rw [h3.1]
  show if nI tk.1 = nI 1 then _ else _
  rw [zi_eq (by omega) (by decide)]
  unfold zisw
  by_cases c1 : tk.1 = 1
  · rw [if_pos c1, decide_eq_true c1, Bool.true_and]
    refine ⟨_, fi_98_8.rd, _, fi_98_9.rd, by decide, _, zTL_tx (by omega), ?_⟩
    rw [h3.2.2.1, h3.2.1, pk_sub hs1, ← w1, zi_eq (by omega) (by omega)]
    by_cases c2 : tk.2.2 - tk.2.1 = (zkw i).length
    · rw [if_pos c2, decide_eq_true c2]
      exact loop true (fun _ => c2)
    · rw [if_neg c2, decide_eq_false c2]
      exact bX12_isWord_35 _ _ (loop false (fun e => absurd e (by decide)))
  · rw [if_neg c1, decide_eq_false c1, Bool.false_and]
    have := loop false (fun e => absurd e (by decide))
    rw [Bool.false_and] at this
    exact bX12_isWord_35 _ _ this
theorem m_isWordB (h : zBm I0 A0 kp I A) {i : Nat} (hi : i < 2) : zRd X 6 MX12_isWord [.ref 98, .ref (zTx i)] (zWd I A t) (zB false) := by
  refine eX12_isWord _ _ (bX12_isWord_0 _ _ ⟨_, fi_98_12.rd, ?_⟩)
  rw [h.2.2.2, if_neg (by decide)]
  refine bX12_isWord_35 _ _ (bX12_isWord_36 _ _ _ (bX12_isWord_39 _ _ _ _ ⟨by decide, _, zTL_tx (by omega), ?_⟩))
  split
  · exact ⟨Or.inl rfl, rfl, rfl⟩
  · rw [if_pos rfl]
    exact ⟨Or.inl rfl, rfl, rfl⟩
theorem r_manyX (hs : s < 3) : zRd X 1 MX12_many [.ref 98, .int (nI s)] (zWd I A t) (A 99 (58 * s)) := by
  have h1 := m_of (X := X) (I := I) (A := A) (t := t) hs (k := 0) (by decide)
  rw [Nat.add_zero] at h1
  exact eX12_many _ _ (bX12_many_0 _ _ (zvRd ob_98 h1 (by decide) ⟨rfl, rfl⟩))
theorem m_bad83 (h : zBm I0 A0 kp I A) (a b : Int32) : zRn X 6 0 0 MX12_readsChain 83 [some (.ref 98), some (.int (nI s)), some (.int a), none, some (.int b)] [] (zWd I A t) (zPm I0 A0 T S s t (.inl kp)) := by
  refine bX12_readsChain_83 _ _ _ _ (n_passesB h (by decide) ⟨_, fi_98_12.rd, ?_⟩)
  rw [h.2.2.2, if_neg (by decide)]
  refine bX12_readsChain_102 _ _ _ (zvRd ob_98 (m_isSignB h _) (by decide) (bX12_readsChain_19 _ _ _ _ ?_))
  rw [zB_f rfl]
  exact ⟨rfl, I, A, rfl, h⟩
theorem m_chain (hs : s < 3) : ∀ k a tk x I A, T.1 < tk.2.1 + k → a < x.1 → zRm I0 A0 T S s tk x I A → zRn X 6 0 0 MX12_readsChain 19 [some (.ref 98), some (.int (nI s)), some (.int (nI a)), some (.int 1), none] [] (zWd I A t) (zPm I0 A0 T S s t (if zsgn T 60 tk = true then zchn T k a tk x else .inl (1, tk.2.1)))
  | 0, a, tk, x, I, A, hk, ha, h => by
    have h1 := h.1.1.1
    have h2 := h.1.1.2.1
    omega
  | k + 1, a, tk, x, I, A, hk, ha, h => by
    obtain ⟨hq, hg, hv⟩ := h
    have h8 := hv.1.1
    have hva := zva_le T (znx T tk)
    refine bX12_readsChain_19 _ _ _ _ ?_
    rw [if_neg (by decide)]
    refine ⟨_, fi_98_12.rd, ?_⟩
    rw [hq.2.2.2.2.2.2, if_pos rfl]
    refine zvRd ob_98 (m_isSign (c := 60) hq (by decide)) (by decide) ?_
    by_cases cs : zsgn T 60 tk = true
    · have hsg := zsgn_k hq.1 cs
      rw [if_pos cs]
      refine n_mustT hq cs (by decide) (fun I1 q1 => ?_)
      have H := hg.mr hs hv
      refine zvRd ob_98 (m_many H) (by decide) ?_
      rw [nI_p (by omega)]
      have m1 := znx_v hq.1
      unfold zchn
      rw [if_pos cs]
      have bad : ∀ f, (f = 1 ∧ (znx T tk).1 ≠ 2 ∨ f = 2 ∧ (znx T tk).1 = 2 ∧ ¬ (0 ≤ zva T (znx T tk) ∧ zva T (znx T tk) ≤ x.1 - 1)) → zthg T x.1 (znx T tk) = .inl f := fun f hf => by
        unfold zthg
        rcases hf with ⟨rfl, c⟩ | ⟨rfl, c, c2⟩
        · rw [if_neg c]
        · rw [if_pos c, if_neg (by omega)]
      refine n_here (lo := 0) q1 (by omega) (by decide) (by decide) (fun f I' hf hb => ⟨_, fi_98_12.rd, ?_⟩) (fun c c2 => ⟨_, fi_98_12.rd, ?_⟩)
      · rw [hb.2.2.2, if_neg (by decide), bad f hf]
        exact m_bad83 hb _ _
      · have hz : zthg T x.1 (znx T tk) = .inr (zva T (znx T tk)) := by
          unfold zthg
          rw [if_pos c, if_pos (by omega)]
        rw [hz, q1.2.2.2.2.2.2, if_pos rfl]
        generalize hb0 : zva T (znx T tk) = b at c2 hva
        have hb : b < x.1 := by omega
        rw [zi_eq (by omega) (by omega)]
        have f3 : a = b ∨ zlt x.2.1 b a = true → zRn X 6 0 0 MX12_readsChain 78 [some (.ref 98), some (.int (nI s)), some (.int (nI a)), none, some (.int (nI b))] [] (zWd I1 A t) (zPm I0 A0 T S s t (if a = b ∨ zlt x.2.1 b a = true then .inl (3, (znx T tk).2.1) else zchn T k b (znx T (znx T tk)) (x.1, zln x.2.1 a b, x.2.2))) := fun c => by
          rw [if_pos c]
          exact bX12_readsChain_78 _ _ _ _ (n_faults q1 3 (by decide) (fun I' hb => m_bad83 hb _ _))
        by_cases ce : a = b
        · rw [if_pos ce]
          exact f3 (Or.inl ce)
        · rw [if_neg ce]
          refine zvRd ob_98 (m_isBelow H (by omega) (by omega)) (by decide) ?_
          rw [zB_if]
          by_cases cl : zlt x.2.1 b a = true
          · rw [if_pos cl]
            exact f3 (Or.inr cl)
          · rw [if_neg cl]
            rw [Bool.not_eq_true] at cl
            refine bX12_readsChain_83 _ _ _ _ (n_passes q1 (by decide) (fun I2 q2 => ⟨_, fi_98_12.rd, ?_⟩))
            rw [q2.2.2.2.2.2.2, if_pos rfl]
            refine zvV ob_98 (m_lies H ha hb) (by decide) ?_
            rintro w1 ⟨D, rfl, d1, d2⟩
            have hP := zln_po hv.1 ha hb ce cl
            have hv' : zVl (x.1, zln x.2.1 a b, x.2.2) := ⟨hP, hv.2.1, hv.2.2⟩
            have hg' : zSg (va_up A 99 D) (zEs (va_up S s (x.1, zln x.2.1 a b, x.2.2))) := by
              have e0 : ∀ k, k < 58 → A 99 (58 * s + k) = nI (zEn x k) := fun k hk => by
                rw [hg _ (by omega), zEs_up _ _ _ _ hk]
              have := zSg_put (A' := va_up A 99 D) (s := s) (y := (x.1, zln x.2.1 a b, x.2.2)) hg (fun k hk => ?_) (fun j hj => ?_)
              · rw [bx_uu] at this
                exact this
              · rw [zup_eq]
                refine zcell hk (P := fun k => D (58 * s + k) = nI (zEn (x.1, zln x.2.1 a b, x.2.2) k)) ?_ (fun c hc => ?_) ?_ (fun r i hr hi => ?_)
                · rw [d2 _ (by omega)]
                  exact e0 0 (by decide)
                · rw [zEn_u hc]
                  by_cases cn : c < x.1
                  · rw [← Nat.add_assoc]
                    exact d1 c cn
                  · rw [d2 _ (by omega), e0 _ (by omega), zEn_u hc, hv.1.2.2.1 c (by omega)]
                    show _ = nI (zln x.2.1 a b c)
                    rw [hP.2.2.1 c (by omega)]
                · rw [d2 _ (by omega)]
                  exact e0 9 (by decide)
                · rw [d2 _ (by omega), e0 _ (by omega), zEn_h hi, zEn_h hi]
              · rw [zup_eq]
                exact d2 j (by omega)
            have q3 := q2.a D
            have h3 : zRm I0 A0 T S s (znx T (znx T tk)) (x.1, zln x.2.1 a b, x.2.2) I2 (va_up A 99 D) := ⟨q3, hg', hv'⟩
            have eo : (if a = b ∨ zlt x.2.1 b a = true then (Sum.inl (3, (znx T tk).2.1) : zOc) else zchn T k b (znx T (znx T tk)) (x.1, zln x.2.1 a b, x.2.2)) = zchn T k b (znx T (znx T tk)) (x.1, zln x.2.1 a b, x.2.2) := if_neg (by
              rintro (q | q)
              · exact ce q
              · rw [cl] at q
                cases q)
            show zRn X 6 0 0 MX12_readsChain 102 _ [] _ (zPm I0 A0 T S s t (if a = b ∨ zlt x.2.1 b a = true then (Sum.inl (3, (znx T tk).2.1) : zOc) else zchn T k b (znx T (znx T tk)) (x.1, zln x.2.1 a b, x.2.2)))
            rw [eo]
            refine bX12_readsChain_102 _ _ _ (zvRd ob_98 (m_isSign (c := 60) q3 (by decide)) (by decide) ?_)
            have m2 := znx_v m1.1
            have m3 := m1.1.1
            by_cases c2 : zsgn T 60 (znx T (znx T tk)) = true
            · have fin := m_chain hs k b (znx T (znx T tk)) (x.1, zln x.2.1 a b, x.2.2) I2 (va_up A 99 D) (by omega) hb h3
              rw [if_pos c2] at fin
              rw [c2]
              exact fin
            · rw [Bool.not_eq_true] at c2
              rw [zchn_no c2, c2]
              refine bX12_readsChain_19 _ _ _ _ ?_
              rw [zB_f rfl]
              exact ⟨rfl, I2, _, rfl, h3⟩
    · rw [if_neg cs]
      rw [Bool.not_eq_true] at cs
      refine n_mustF hq cs (by decide) (fun I1 hb => ?_)
      refine zvRd ob_98 (r_manyX hs) (by decide) (n_hereB hb _ _ (by decide) ⟨_, fi_98_12.rd, ?_⟩)
      rw [hb.2.2.2, if_neg (by decide)]
      exact m_bad83 hb _ _
theorem m_climb (hs : s < 3) (h : zRm I0 A0 T S s tk x I A) (hn : 1 ≤ x.1) : zEv X 6 0 0 MX12_readsChain [.ref 98, .int (nI s)] (zWd I A t) (zPm I0 A0 T S s t (zcli T tk x)) := by
  obtain ⟨hq, hg, hv⟩ := h
  have h8 := hv.1.1
  have t1 := hq.2.1.1
  have hva := zva_le T tk
  refine eX12_readsChain _ _ (bX12_readsChain_0 _ _ (zvRd ob_98 (m_many (hg.mr hs hv)) (by decide) ?_))
  rw [nI_p hn]
  unfold zcli
  refine n_here (lo := 0) hq (by omega) (by decide) (by decide) (fun f I' hf hb => ?_) (fun c c2 => ?_)
  · have hz : zthg T x.1 tk = .inl f := by
      unfold zthg
      rcases hf with ⟨rfl, c⟩ | ⟨rfl, c, c2⟩
      · rw [if_neg c]
      · rw [if_pos c, if_neg (by omega)]
    rw [hz]
    refine n_passesB hb (by decide) (bX12_readsChain_19 _ _ _ _ ?_)
    rw [if_neg (by decide)]
    refine ⟨_, fi_98_12.rd, ?_⟩
    rw [hb.2.2.2, if_neg (by decide)]
    exact ⟨rfl, I', A, rfl, hb⟩
  · have hz : zthg T x.1 tk = .inr (zva T tk) := by
      unfold zthg
      rw [if_pos c, if_pos (by omega)]
    rw [hz]
    exact n_passes hq (by decide) (fun I1 q1 => m_chain hs 401 _ _ _ _ _ (by omega) (by omega) ⟨q1, hg, hv⟩)
end ZMc
