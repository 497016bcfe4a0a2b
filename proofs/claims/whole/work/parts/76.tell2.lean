/-! ===== tell: both sides ===== -/
def zKm (I0 A0 : zF2) (l : List Nat) (I A : zF2) : Prop := ((∀ j, j ≠ 114 → A j = A0 j) ∧ (∀ p k, (p ≠ 98 ∨ k ≠ 28) → I p k = I0 p k)) ∧ zOl (I 98 28) (A 114) l
section ZT2
variable {X : zX} {I A I0 A0 : zF2} {t : zW} {q d s : Nat} {x : zSl} {l : List Nat} {K : zW → Prop}
theorem v_wRows (H : zCS I0 A0 q x) (hq : q + 5 ≤ 77) (h : zKl 77 160 I0 A0 l I A) : zEv X 7 0 0 MX5_writeRows [.ref q, .ref 77] (zWd I A t) (fun v w1 => v = none ∧ ∃ I' A', w1 = zWd I' A' t ∧ zKl 77 160 I0 A0 (zrw x.1 x.2.2.2 x.2.2.1 l) I' A') := by
  have h8 := H.1.n8
  have h6 := H.2.1.1
  have hh := H.2.1.2.1
  refine eX5_writeRows _ _ (bX5_writeRows_0 _ _ ?_)
  have key : ∀ r, r ≤ x.2.2.1 → ∀ I A, zKl 77 160 I0 A0 (zrw x.1 x.2.2.2 r l) I A → zRn X 7 0 0 MX5_writeRows 2 [some (.ref q), some (.ref 77), some (.int (nI r)), none] [] (zWd I A t) (fun v w1 => v = none ∧ ∃ I' A', w1 = zWd I' A' t ∧ zKl 77 160 I0 A0 (zrw x.1 x.2.2.2 x.2.2.1 l) I' A') := by
    refine zdown ?_ ?_
    · intro I A h
      have H' := h.1.cs hq H
      refine bX5_writeRows_2 _ _ _ ⟨_, H'.1.1.rw.rd, zvRd H'.1.1.rob (v_rsize H'.1.1) (by decide) ?_⟩
      rw [H'.2.2.1, if_pos (Int32.le_refl _)]
      exact ⟨rfl, I, A, rfl, h⟩
    · intro r hr ih I A h
      have H' := h.1.cs hq H
      refine bX5_writeRows_2 _ _ _ ⟨_, H'.1.1.rw.rd, zvRd H'.1.1.rob (v_rsize H'.1.1) (by decide) ?_⟩
      rw [H'.2.2.1, zi_le (by omega) (by omega), if_neg (by omega)]
      refine k_word tT77 h (by decide) (by decide) (by decide) (fun I A h => ?_)
      have inner : ∀ i, i ≤ x.1 → ∀ I A, zKl 77 160 I0 A0 (zrl (x.2.2.2 r) i (zrw x.1 x.2.2.2 r l ++ zwd 3)) I A → zRn X 7 0 0 MX5_writeRows 21 [some (.ref q), some (.ref 77), some (.int (nI r)), some (.int (nI i))] [] (zWd I A t) (fun v w1 => v = none ∧ ∃ I' A', w1 = zWd I' A' t ∧ zKl 77 160 I0 A0 (zrw x.1 x.2.2.2 x.2.2.1 l) I' A') := by
        refine zdown ?_ ?_
        · intro I A h
          have H' := h.1.cs hq H
          refine bX5_writeRows_21 _ _ _ _ ⟨_, H'.1.sz, ?_⟩
          rw [if_pos (Int32.le_refl _)]
          refine k_put tT77 h (b := 59) (by decide) (by decide) (by decide) (fun I A h => ?_)
          rw [nI_1]
          exact ih I A h
        · intro i hi ih2 I A h
          have H' := h.1.cs hq H
          have hb := hh r i hr hi
          refine bX5_writeRows_21 _ _ _ _ ⟨_, H'.1.sz, ?_⟩
          rw [zi_le (by omega) (by omega), if_neg (by omega)]
          refine ⟨_, H'.1.1.rw.rd, zvRd H'.1.1.rob (v_rthing H'.1.1 H'.2 h8 hr hi) (by decide) ?_⟩
          refine k_digit tT77 h (by omega) (by decide) (fun I A h => ?_)
          rw [nI_1]
          exact ih2 I A h
      exact inner 0 (Nat.zero_le _) I A h
  exact key 0 (Nat.zero_le _) I A h
theorem v_writeTo (H : zCS I0 A0 q x) (hq : q + 5 ≤ 77) (h : zKl 77 160 I0 A0 [] I A) : zEv X 8 0 0 MX5_writeTo [.ref q, .ref 77] (zWd I A t) (fun v w1 => v = none ∧ ∃ I' A', w1 = zWd I' A' t ∧ zKl 77 160 I0 A0 (zTe x) I' A') := by
  have h8 := H.1.n8
  have hP := H.1.2.1
  refine eX5_writeTo _ _ (bX5_writeTo_0 _ _ (k_word tT77 h (by decide) (by decide) (by decide) (fun I A h => ⟨_, (h.1.cs hq H).1.sz, k_digit tT77 h (by omega) (by decide) (fun I A h => ?_)⟩)))
  have outer : ∀ a, a ≤ x.1 → ∀ I A, zKl 77 160 I0 A0 (zto x.1 x.2.1 a (zTe0 x.1)).1 I A → zRn X 8 0 0 MX5_writeTo 18 [some (.ref q), some (.ref 77), some (.int (zB (zto x.1 x.2.1 a (zTe0 x.1)).2)), some (.int (nI a)), none, none] [] (zWd I A t) (fun v w1 => v = none ∧ ∃ I' A', w1 = zWd I' A' t ∧ zKl 77 160 I0 A0 (zTe x) I' A') := by
    refine zdown ?_ ?_
    · intro I A h
      refine bX5_writeTo_18 _ _ _ _ ⟨_, (h.1.cs hq H).1.sz, ?_⟩
      rw [if_pos (Int32.le_refl _)]
      refine k_put tT77 h (b := 59) (by decide) (by decide) (by decide) (fun I A h => ?_)
      refine zvV (h.1.cs hq H).1.1.ob (v_wRows H hq h) (by decide) ?_
      rintro w1 ⟨I', A', rfl, h'⟩
      exact ⟨rfl, I', A', rfl, h'⟩
    · intro a ha ih I A h
      have H' := h.1.cs hq H
      refine bX5_writeTo_18 _ _ _ _ ⟨_, H'.1.sz, ?_⟩
      rw [zi_le (by omega) (by omega), if_neg (by omega)]
      refine zvRd H'.1.1.ob (v_coversOf H'.1 (by omega)) (by decide) ?_
      have hco : zco x.1 x.2.1 a < 2 ^ 31 := by
        have h1 := zmk_lt x.1 (fun b => zcv x.1 x.2.1 a b)
        have h2 := z28 h8
        unfold zco
        omega
      have inner : ∀ b, b ≤ x.1 → ∀ I A, zKl 77 160 I0 A0 (zti x.1 x.2.1 a b (zto x.1 x.2.1 a (zTe0 x.1))).1 I A → zRn X 8 0 0 MX5_writeTo 36 [some (.ref q), some (.ref 77), some (.int (zB (zti x.1 x.2.1 a b (zto x.1 x.2.1 a (zTe0 x.1))).2)), some (.int (nI a)), some (.int (nI (zco x.1 x.2.1 a))), some (.int (nI b))] [] (zWd I A t) (fun v w1 => v = none ∧ ∃ I' A', w1 = zWd I' A' t ∧ zKl 77 160 I0 A0 (zTe x) I' A') := by
        refine zdown ?_ ?_
        · intro I A h
          refine bX5_writeTo_36 _ _ _ _ _ _ ⟨_, (h.1.cs hq H).1.sz, ?_⟩
          rw [if_pos (Int32.le_refl _), nI_1]
          exact ih I A h
        · intro b hb ih2 I A h
          refine bX5_writeTo_36 _ _ _ _ _ _ ⟨_, (h.1.cs hq H).1.sz, ?_⟩
          rw [zi_le (by omega) (by omega), if_neg (by omega), zi_has hco (by omega)]
          have e : (zco x.1 x.2.1 a).testBit b = zcv x.1 x.2.1 a b := by
            unfold zco
            rw [zmk_bit, decide_eq_true hb, Bool.true_and]
          rw [e]
          have e2 : zti x.1 x.2.1 a (b + 1) (zto x.1 x.2.1 a (zTe0 x.1)) = if zcv x.1 x.2.1 a b = true then ((zti x.1 x.2.1 a b (zto x.1 x.2.1 a (zTe0 x.1))).1 ++ [cond (zti x.1 x.2.1 a b (zto x.1 x.2.1 a (zTe0 x.1))).2 58 44] ++ [48 + a] ++ [60] ++ [48 + b], false) else zti x.1 x.2.1 a b (zto x.1 x.2.1 a (zTe0 x.1)) := rfl
          rw [e2] at ih2
          by_cases c : zcv x.1 x.2.1 a b = true
          · rw [if_pos c] at ih2
            rw [if_pos c, zB_if]
            have go : ∀ (u0 : Int32) (v : Nat), v < 256 → u0 = nI v → v = cond (zti x.1 x.2.1 a b (zto x.1 x.2.1 a (zTe0 x.1))).2 58 44 → zRn X 8 0 0 MX5_writeTo 68 [some (.ref q), some (.ref 77), none, some (.int (nI a)), some (.int (nI (zco x.1 x.2.1 a))), some (.int (nI b))] [.int u0, .ref 77] (zWd I A t) (fun v w1 => v = none ∧ ∃ I' A', w1 = zWd I' A' t ∧ zKl 77 160 I0 A0 (zTe x) I' A') := by
              rintro u0 v hv rfl hv2
              refine bX5_writeTo_68 _ _ _ _ _ _ _ (k_put tT77 h (zm255 hv) hv (by decide) (fun I A h => k_digit tT77 h (by omega) (by decide) (fun I A h => k_put tT77 h (b := 60) (by decide) (by decide) (by decide) (fun I A h => k_digit tT77 h (by omega) (by decide) (fun I A h => ?_)))))
              refine bX5_writeTo_90 _ _ _ _ _ _ ?_
              rw [nI_1]
              rw [hv2] at h
              exact ih2 I A h
            by_cases f : (zti x.1 x.2.1 a b (zto x.1 x.2.1 a (zTe0 x.1))).2 = true
            · rw [if_pos f]
              exact go _ 58 (by decide) rfl (by rw [f]; rfl)
            · rw [if_neg f]
              rw [Bool.not_eq_true] at f
              exact go _ 44 (by decide) rfl (by rw [f]; rfl)
          · rw [if_neg c] at ih2
            rw [if_neg c]
            refine bX5_writeTo_90 _ _ _ _ _ _ ?_
            rw [nI_1]
            exact ih2 I A h
      exact inner 0 (Nat.zero_le _) I A h
  exact outer 0 (Nat.zero_le _) I A h
/- the model -/
theorem n_put {b : Nat} (hb : b < 256) (h : zKm I0 A0 l I A) (hl : l.length < 400) : ∃ w3, zsI (zWd I A t) 114 (I 98 28) (nI b) = some w3 ∧ ∃ x4, zfI w3 98 11 28 = some x4 ∧ ∃ w5, zsF w3 98 11 28 (.int (x4 + 1)) = some w5 ∧ ∃ I' A', w5 = zWd I' A' t ∧ zKm I0 A0 (l ++ [b]) I' A' := by
  obtain ⟨⟨h1, h2⟩, h3⟩ := h
  refine ⟨zWd I (va_up A 114 (upd (A 114) l.length (nI b))) t, by rw [h3.1]; exact ar_114.wr hl, _, fi_98_28.rd, _, fi_98_28.wr, _, _, rfl, ⟨fun j hj => by rw [zup_ne hj]; exact h1 j hj, fun p k hk => ?_⟩, ?_⟩
  · by_cases e : p = 98
    · subst e
      exact (zIf_ne I (k := 28) _ (by omega)).trans (h2 98 k hk)
    · rw [zup_ne e]
      exact h2 p k hk
  · rw [zup_eq, zup_eq, upd_eq]
    exact h3.snoc hb
theorem n_digit {b : Nat} (hb : b < 200) (h : zKm I0 A0 l I A) (hl : l.length < 400) (hd : 0 < d) (k : ∀ I' A', zKm I0 A0 (l ++ [48 + b]) I' A' → K (zWd I' A' t)) : zIs (zWd I A t) 98 11 ∧ zCallV X d MX12_saysDigit [.ref 98, .int (nI b)] (zWd I A t) K := by
  refine zvV ob_98 (d1 := 0) (P := fun w1 => ∃ I' A', w1 = zWd I' A' t ∧ zKm I0 A0 (l ++ [48 + b]) I' A') (eX12_saysDigit _ _ (bX12_saysDigit_0 _ _ ⟨_, fr_98_27.rd, _, fi_98_28.rd, ?_⟩)) hd (by rintro w1 ⟨I', A', rfl, h'⟩; exact k I' A' h')
  obtain ⟨w3, e3, x4, e4, w5, e5, I', A', e6, h'⟩ := n_put (t := t) (b := 48 + b) (by omega) h hl
  refine ⟨w3, ?_, x4, e4, w5, e5, rfl, I', A', e6, h'⟩
  show zsI _ _ _ (nI 48 + nI b) = _
  rw [nI_add]
  exact e3
theorem n_word {i : Nat} (hi : i < 8) (hi2 : 2 ≤ i) (h : zKm I0 A0 l I A) (hl : l.length < 390) (hd : 6 < d) (k : ∀ I' A', zKm I0 A0 (l ++ zwd i) I' A' → K (zWd I' A' t)) : zIs (zWd I A t) 98 11 ∧ zCallV X d MX12_says [.ref 98, .ref (zTx i)] (zWd I A t) K := by
  refine zvV ob_98 (d1 := 6) (P := fun w1 => ∃ I' A', w1 = zWd I' A' t ∧ zKm I0 A0 (l ++ zwd i) I' A') (eX12_says _ _ (bX12_says_0 _ _ ?_)) hd (by rintro w1 ⟨I', A', rfl, h'⟩; exact k I' A' h')
  have h10 := zsLen_lt i hi
  have hwl : ∀ j, (zwt i j).length = j := fun j => by
    induction j with
    | zero => rfl
    | succ j ih =>
      show (zwt i j ++ [_]).length = _
      rw [List.length_append, ih]
      rfl
  have key : ∀ j, j ≤ zsLen.getD i 0 → ∀ I A, zKm I0 A0 (l ++ zwt i j) I A → zRn X 6 0 0 MX12_says 2 [some (.ref 98), some (.ref (zTx i)), some (.int (nI j))] [] (zWd I A t) (fun v w1 => v = none ∧ ∃ I' A', w1 = zWd I' A' t ∧ zKm I0 A0 (l ++ zwd i) I' A') := by
    refine zdown ?_ ?_
    · intro I A h'
      refine bX12_says_2 _ _ _ ⟨by decide, _, zTL_tx hi, ?_⟩
      rw [if_pos (Int32.le_refl _)]
      rw [zwt_full i hi hi2] at h'
      exact ⟨rfl, I, A, rfl, h'⟩
    · intro j hj ih I A h'
      refine bX12_says_2 _ _ _ ⟨by decide, _, zTL_tx hi, ?_⟩
      rw [zi_le (by omega) (by omega), if_neg (by omega)]
      have e : (nI j).toNatClampNeg = j := nI_clamp (by omega)
      have b1 := zwd_byt i hi hi2 j hj
      refine ⟨_, fr_98_27.rd, _, fi_98_28.rd, by decide, _, zTC_tx hi ?_, ?_⟩
      · unfold vp_in
        rw [e]
        rintro (q | q)
        · exact nI_pos (by omega) q
        · omega
      · rw [e, b1.1]
        obtain ⟨w3, e3, x4, e4, w5, e5, I', A', rfl, h2⟩ := n_put (t := t) b1.2 h' (by rw [List.length_append, hwl]; omega)
        refine ⟨w3, e3, x4, e4, _, e5, ?_⟩
        rw [List.append_assoc] at h2
        rw [nI_1]
        exact ih I' A' h2
  exact key 0 (Nat.zero_le _) I A (by rw [show zwt i 0 = [] from rfl, List.append_nil]; exact h)
theorem zKm.mr {n R : Nat} {u : Nat → Nat} {h : Nat → Nat → Nat} (g : zKm I0 A0 l I A) (H : zMR A0 s n u R h) : zMR A s n u R h := by
  obtain ⟨h1, h2, h3, h4⟩ := H
  rw [← g.1.1 99 (by decide)] at h4
  exact ⟨h1, h2, h3, h4⟩
theorem m_tell (H : zMR A0 s x.1 x.2.1 x.2.2.1 x.2.2.2) (hs : 0 < x.1) (h : zKm I0 A0 [] (zIf I 28 0) A) (h0 : A 99 = A0 99) : zEv X 9 0 0 MX12_tell [.ref 98, .int (nI s)] (zWd I A t) (fun v w1 => v = some (.int (nI (zTe x).length)) ∧ ∃ I' A', w1 = zWd I' A' t ∧ zKm I0 A0 (zTe x) I' A') := by
  have h8 := H.2.1.1
  have h6 := H.2.2.1.1
  have hh := H.2.2.1.2.1
  have HA : zMR A s x.1 x.2.1 x.2.2.1 x.2.2.2 := by
    obtain ⟨h1, h2, h3, h4⟩ := H
    rw [← h0] at h4
    exact ⟨h1, h2, h3, h4⟩
  refine eX12_tell _ _ (bX12_tell_0 _ _ (zvRd ob_98 (m_isOrderS HA) (by decide) ?_))
  rw [zB_ifP, if_pos hs]
  refine ⟨_, fi_98_28.wr, n_word (by decide) (by decide) h (by decide) (by decide) (fun I A h => zvRd ob_98 (m_many (h.mr H)) (by decide) (n_digit (by omega) h (by decide) (by decide) (fun I A h => ?_)))⟩
  have e0 : (zTe0 x.1).1.length = 7 := rfl
  have outer : ∀ a, a ≤ x.1 → ∀ I A, zKm I0 A0 (zto x.1 x.2.1 a (zTe0 x.1)).1 I A → zRn X 9 0 0 MX12_tell 36 [some (.ref 98), some (.int (nI s)), some (.int (zB (!(zto x.1 x.2.1 a (zTe0 x.1)).2))), some (.int (nI a)), none] [] (zWd I A t) (fun v w1 => v = some (.int (nI (zTe x).length)) ∧ ∃ I' A', w1 = zWd I' A' t ∧ zKm I0 A0 (zTe x) I' A') := by
    refine zdown ?_ ?_
    · intro I A h
      refine bX12_tell_36 _ _ _ _ (zvRd ob_98 (m_many (h.mr H)) (by decide) ?_)
      rw [if_pos (Int32.le_refl _)]
      have hb := zto_bd h8 x.2.1 (zTe0 x.1) x.1
      refine n_word (by decide) (by decide) h (by omega) (by decide) (fun I A h => ?_)
      generalize hL : (zto x.1 x.2.1 x.1 (zTe0 x.1)).1 ++ zwd 7 = L0 at h
      have hL2 : L0.length ≤ 264 := by
        rw [← hL, List.length_append]
        have : (zwd 7).length = 1 := rfl
        omega
      have eT : zTe x = zrw x.1 x.2.2.2 x.2.2.1 L0 := by
        rw [← hL]
        rfl
      rw [eT]
      have key : ∀ r, r ≤ x.2.2.1 → ∀ I A, zKm I0 A0 (zrw x.1 x.2.2.2 r L0) I A → ∀ u, u = none → zRn X 9 0 0 MX12_tell 127 [some (.ref 98), some (.int (nI s)), none, some (.int (nI r)), u] [] (zWd I A t) (fun v w1 => v = some (.int (nI (zrw x.1 x.2.2.2 x.2.2.1 L0).length)) ∧ ∃ I' A', w1 = zWd I' A' t ∧ zKm I0 A0 (zrw x.1 x.2.2.2 x.2.2.1 L0) I' A') := by
        refine zdown ?_ ?_
        · rintro I A h u rfl
          refine bX12_tell_127 _ _ _ (zvRd ob_98 (m_rows (h.mr H)) (by decide) ?_)
          rw [if_pos (Int32.le_refl _)]
          refine ⟨_, fi_98_28.rd, ?_⟩
          rw [h.2.1]
          exact ⟨rfl, I, A, rfl, h⟩
        · rintro r hr ih I A h u rfl
          refine bX12_tell_127 _ _ _ (zvRd ob_98 (m_rows (h.mr H)) (by decide) ?_)
          rw [zi_le (by omega) (by omega), if_neg (by omega)]
          have hlr : (zrw x.1 x.2.2.2 r L0).length ≤ 264 + 13 * r := by
            rw [zrw_len]
            have : r * (x.1 + 5) ≤ r * 13 := Nat.mul_le_mul_left _ (by omega)
            omega
          refine n_word (by decide) (by decide) h (by omega) (by decide) (fun I A h => ?_)
          have inner : ∀ i, i ≤ x.1 → ∀ I A, zKm I0 A0 (zrl (x.2.2.2 r) i (zrw x.1 x.2.2.2 r L0 ++ zwd 3)) I A → zRn X 9 0 0 MX12_tell 146 [some (.ref 98), some (.int (nI s)), none, some (.int (nI r)), some (.int (nI i))] [] (zWd I A t) (fun v w1 => v = some (.int (nI (zrw x.1 x.2.2.2 x.2.2.1 L0).length)) ∧ ∃ I' A', w1 = zWd I' A' t ∧ zKm I0 A0 (zrw x.1 x.2.2.2 x.2.2.1 L0) I' A') := by
            have hl3 : (zwd 3).length = 4 := rfl
            refine zdown ?_ ?_
            · intro I A h
              refine bX12_tell_146 _ _ _ _ (zvRd ob_98 (m_many (h.mr H)) (by decide) ?_)
              rw [if_pos (Int32.le_refl _)]
              refine n_word (by decide) (by decide) h (by rw [zrl_len, List.length_append]; omega) (by decide) (fun I A h => ?_)
              rw [nI_1]
              exact ih I A h _ rfl
            · intro i hi ih2 I A h
              have hb := hh r i hr hi
              refine bX12_tell_146 _ _ _ _ (zvRd ob_98 (m_many (h.mr H)) (by decide) ?_)
              rw [zi_le (by omega) (by omega), if_neg (by omega)]
              refine zvRd ob_98 (m_rowAt (h.mr H) (by omega) (by omega)) (by decide) ?_
              refine n_digit (by omega) h (by rw [zrl_len, List.length_append]; omega) (by decide) (fun I A h => ?_)
              rw [nI_1]
              exact ih2 I A h
          exact inner 0 (Nat.zero_le _) I A h
      exact key 0 (Nat.zero_le _) I A h _ rfl
    · intro a ha ih I A h
      refine bX12_tell_36 _ _ _ _ (zvRd ob_98 (m_many (h.mr H)) (by decide) ?_)
      rw [zi_le (by omega) (by omega), if_neg (by omega)]
      have hb := zto_bd h8 x.2.1 (zTe0 x.1) a
      have inner : ∀ b, b ≤ x.1 → ∀ I A, zKm I0 A0 (zti x.1 x.2.1 a b (zto x.1 x.2.1 a (zTe0 x.1))).1 I A → zRn X 9 0 0 MX12_tell 48 [some (.ref 98), some (.int (nI s)), some (.int (zB (!(zti x.1 x.2.1 a b (zto x.1 x.2.1 a (zTe0 x.1))).2))), some (.int (nI a)), some (.int (nI b))] [] (zWd I A t) (fun v w1 => v = some (.int (nI (zTe x).length)) ∧ ∃ I' A', w1 = zWd I' A' t ∧ zKm I0 A0 (zTe x) I' A') := by
        refine zdown ?_ ?_
        · intro I A h
          refine bX12_tell_48 _ _ _ _ _ (zvRd ob_98 (m_many (h.mr H)) (by decide) ?_)
          rw [if_pos (Int32.le_refl _), nI_1]
          exact ih I A h
        · intro b hb2 ih2 I A h
          have hc := zti_bd x.1 x.2.1 a (zto x.1 x.2.1 a (zTe0 x.1)) b
          refine bX12_tell_48 _ _ _ _ _ (zvRd ob_98 (m_many (h.mr H)) (by decide) ?_)
          rw [zi_le (by omega) (by omega), if_neg (by omega)]
          refine zvRd ob_98 (m_isCover (h.mr H) (by omega) (by omega)) (by decide) ?_
          rw [zB_if]
          have e2 : zti x.1 x.2.1 a (b + 1) (zto x.1 x.2.1 a (zTe0 x.1)) = if zcv x.1 x.2.1 a b = true then ((zti x.1 x.2.1 a b (zto x.1 x.2.1 a (zTe0 x.1))).1 ++ [cond (zti x.1 x.2.1 a b (zto x.1 x.2.1 a (zTe0 x.1))).2 58 44] ++ [48 + a] ++ [60] ++ [48 + b], false) else zti x.1 x.2.1 a b (zto x.1 x.2.1 a (zTe0 x.1)) := rfl
          rw [e2] at ih2
          by_cases c : zcv x.1 x.2.1 a b = true
          · rw [if_pos c] at ih2
            rw [if_pos c, zB_if]
            have go : ∀ (i : Nat), i < 8 → 2 ≤ i → zwd i = [cond (zti x.1 x.2.1 a b (zto x.1 x.2.1 a (zTe0 x.1))).2 58 44] → zRn X 9 0 0 MX12_tell 83 [some (.ref 98), some (.int (nI s)), none, some (.int (nI a)), some (.int (nI b))] [.ref (zTx i), .ref 98] (zWd I A t) (fun v w1 => v = some (.int (nI (zTe x).length)) ∧ ∃ I' A', w1 = zWd I' A' t ∧ zKm I0 A0 (zTe x) I' A') := by
              rintro i hi hi2 hv
              refine bX12_tell_83 _ _ _ _ _ _ (n_word hi hi2 h (by omega) (by decide) (fun I A h => n_digit (by omega) h (by rw [hv, List.length_append]; simp only [List.length_cons, List.length_nil]; omega) (by decide) (fun I A h => n_word (by decide) (by decide) h (by rw [hv, List.length_append, List.length_append]; simp only [List.length_cons, List.length_nil]; omega) (by decide) (fun I A h => n_digit (by omega) h (by rw [hv, List.length_append, List.length_append, List.length_append]; simp only [List.length_cons, List.length_nil, zwd]; omega) (by decide) (fun I A h => ?_)))))
              refine bX12_tell_106 _ _ _ _ _ ?_
              rw [nI_1]
              rw [hv] at h
              exact ih2 I A h
            by_cases f : (zti x.1 x.2.1 a b (zto x.1 x.2.1 a (zTe0 x.1))).2 = true
            · rw [if_neg (by rw [f]; decide)]
              exact go 5 (by decide) (by decide) (by rw [f]; rfl)
            · rw [Bool.not_eq_true] at f
              rw [if_pos (by rw [f]; decide)]
              exact go 4 (by decide) (by decide) (by rw [f]; rfl)
          · rw [if_neg c] at ih2
            rw [if_neg c]
            refine bX12_tell_106 _ _ _ _ _ ?_
            rw [nI_1]
            exact ih2 I A h
      exact inner 0 (Nat.zero_le _) I A h
  exact outer 0 (Nat.zero_le _) I A h
end ZT2
