/-! ===== the law's loop ===== -/
section ZLo
variable {X : zX} {I A : zF2} {t : zW} {st : zSt} {kc ks : Nat}
theorem l_call {M N : zM} {av : List Value} {K : Int32 → zW → Prop} {R Q0 : zW → Prop} (h : zAc X M N av st) (hC : zCI st I A) (hM : zMIv st I A) (kk : ∀ x w2, (zIs w2 98 11 ∧ zCallI X 91 N (.ref 98 :: av) w2 (fun x6 w5 => if x = x6 then R w5 else Q0 w5)) → K x w2) (kr : ∀ st' I' A', zCI st' I' A' → zMIv st' I' A' → R (zWd I' A' t)) : zIs (zWd I A t) 0 10 ∧ zCallI X 91 M (.ref 0 :: av) (zWd I A t) K := by
  obtain ⟨r, st', h1, h2⟩ := h
  refine ⟨ob_0.is, ?_⟩
  obtain ⟨d1, Q1, g1, g2, g3⟩ := h1 I A t hC
  refine ⟨d1, Q1, by omega, g2, fun v w1 q => ?_⟩
  obtain ⟨rfl, I1, A1, rfl, k1, k2⟩ := g3 v w1 q
  refine ⟨r, rfl, kk r _ ⟨ob_98.is, ?_⟩⟩
  obtain ⟨d2, Q2, f1, f2, f3⟩ := h2 I1 A1 t (k2 st hM)
  refine ⟨d2, Q2, by omega, f2, fun v w1 q => ?_⟩
  obtain ⟨rfl, I2, A2, rfl, m1, m2⟩ := f3 v w1 q
  refine ⟨r, rfl, ?_⟩
  show if r = r then _ else _
  rw [if_pos rfl]
  exact kr st' I2 A2 (m2 st' k1) m1
theorem l_feed {M N : zM} {av : List Value} {K : Int32 → zW → Prop} {R : Nat → Nat → zW → Prop} {Q0 : zW → Prop} (h : zFd X M N av st) (ht : 115 + t.length < zBig) (hk : 1 ≤ kc) (hks : 5 ≤ ks) (hC : zCI st I A) (hM : zMIv st I A) (kk : ∀ x w2, (zIs w2 98 11 ∧ zCallB X 91 kc ks N (.ref 98 :: av) w2 (fun x6 k s w5 => if x = x6 then R k s w5 else Q0 w5)) → K x w2) (kr : ∀ st' I' A' t', t'.length ≤ t.length + 1 → zCI st' I' A' → zMIv st' I' A' → R (kc - 1) (ks - 5) (zWd I' A' t')) : zIs (zWd I A t) 0 10 ∧ zCallI X 91 M (.ref 0 :: av) (zWd I A t) K := by
  obtain ⟨r, st', h1, h2⟩ := h
  refine ⟨ob_0.is, ?_⟩
  obtain ⟨d1, Q1, g1, g2, g3⟩ := h1 I A t hC
  refine ⟨d1, Q1, by omega, g2, fun v w1 q => ?_⟩
  obtain ⟨rfl, I1, A1, rfl, k1, k2⟩ := g3 v w1 q
  refine ⟨r, rfl, kk r _ ⟨ob_98.is, ?_⟩⟩
  obtain ⟨d2, f1, f2⟩ := h2 I1 A1 t ht (k2 st hM)
  refine ⟨d2, 1, 5, _, by omega, hk, hks, f2, ?_⟩
  rintro v w1 ⟨rfl, I2, A2, t2, rfl, hl, m1, m2⟩
  refine ⟨r, rfl, ?_⟩
  show if r = r then _ else _
  rw [if_pos rfl]
  exact kr st' I2 A2 t2 hl (m2 st' k1) m1
theorem zLneg : ∀ L, L < 6 → nI L - 6 < 0 := by decide
theorem l_loop (hX : zsL X ≤ 3072) : ∀ m i st I A t kc ks, i ≤ 4000 → zsL X < i + 6 * m + 6 → m ≤ kc → 5 * m ≤ ks → 115 + t.length + m < zBig → zCI st I A → zMIv st I A → zRn X 91 kc ks ML_law 18 [some (.ref zSc), some (.ref 0), some (.ref 98), some (.int (nI i))] [] (zWd I A t) (fun v _ => v = some (.int 1)) := by
  intro m
  induction m with
  | zero =>
    intro i st I A t kc ks hi hL _ _ _ hC hM
    refine bL_law_18 _ _ _ ?_
    rw [if_pos]
    by_cases c : zsL X < 6
    · exact Int32.lt_of_lt_of_le (zLneg _ c) (Int32.not_lt.mp (nI_pos (by omega)))
    · show nI (zsL X) - nI 6 < nI i
      rw [pk_sub (by omega), zb_lt (by omega) (by omega)]
      omega
  | succ m ih =>
    intro i st I A t kc ks hi hL hk hks ht hC hM
    refine bL_law_18 _ _ _ ?_
    by_cases c : zsL X < i + 6
    · rw [if_pos]
      by_cases c : zsL X < 6
      · exact Int32.lt_of_lt_of_le (zLneg _ c) (Int32.not_lt.mp (nI_pos (by omega)))
      · show nI (zsL X) - nI 6 < nI i
        rw [pk_sub (by omega), zb_lt (by omega) (by omega)]
        omega
    · rw [if_neg (by
        show ¬ nI (zsL X) - nI 6 < nI i
        rw [pk_sub (by omega), zb_lt (by omega) (by omega)]
        omega)]
      have vin : ∀ k, k < 6 → vp_in (nI i + nI k) (zsL X) := fun k hk => by
        unfold vp_in
        rw [nI_add, nI_clamp (by omega)]
        rintro (q | q)
        · exact nI_pos (by omega) q
        · omega
      have v0 : vp_in (nI i) (zsL X) := by
        have := vin 0 (by decide)
        rw [nI_add, Nat.add_zero] at this
        exact this
      have v1 : vp_in (nI i + 1) (zsL X) := vin 1 (by decide)
      have v2 : vp_in (nI i + 2) (zsL X) := vin 2 (by decide)
      have v3 : vp_in (nI i + 3) (zsL X) := vin 3 (by decide)
      have v4 : vp_in (nI i + 4) (zsL X) := vin 4 (by decide)
      have v5 : vp_in (nI i + 5) (zsL X) := vin 5 (by decide)
      have e6 : nI i + 6 = nI (i + 6) := nI_add i 6
      have next : ∀ (kc ks : Nat) (t : zW) st' I' A', m ≤ kc → 5 * m ≤ ks → 115 + t.length + m < zBig → zCI st' I' A' → zMIv st' I' A' → zRn X 91 kc ks ML_law 1669 [some (.ref zSc), some (.ref 0), some (.ref 98), some (.int (nI i))] [] (zWd I' A' t) (fun v _ => v = some (.int 1)) := fun kc ks t st' I' A' g1 g2 g3 g4 g5 => by
        refine bL_law_1669 _ _ _ ?_
        rw [e6]
        exact ih (i + 6) st' I' A' t kc ks (by omega) (by omega) g1 g2 g3 g4 g5
      have nx : ∀ st' I' A', zCI st' I' A' → zMIv st' I' A' → zRn X 91 kc ks ML_law 1669 [some (.ref zSc), some (.ref 0), some (.ref 98), some (.int (nI i))] [] (zWd I' A' t) (fun v _ => v = some (.int 1)) := fun st' I' A' g4 g5 => next kc ks t st' I' A' (by omega) (by omega) (by omega) g4 g5
      refine ⟨v0, fun _ => ?_, fun _ => ?_, fun _ => ?_, fun _ => ?_, fun _ => ?_, fun _ => ?_, fun _ => ?_, fun _ => ?_, fun _ => ?_, fun _ => ?_, fun _ => ?_, fun _ => ?_, fun _ => ?_, fun _ => ?_, fun _ => ?_, fun _ => ?_, fun _ => ?_, fun _ => ?_, fun _ => ?_, fun _ => ?_, fun _ => ?_, fun _ => ?_, fun _ => ?_, fun _ => ?_, fun _ => ?_, fun _ => ?_, fun _ => ?_, fun _ => ?_, fun _ => ?_, fun _ => ?_, fun _ => ?_, fun _ => ?_, fun _ => ?_, fun _ => ?_, fun _ => ?_, fun _ => ?_, fun _ => ?_, fun _ => ?_, fun _ => ?_, fun _ => ?_, fun _ => ?_, fun _ => ?_, fun _ => ?_, fun _ => ?_⟩
      · exact bL_law_220 _ _ _ ⟨v1, v2, v3, v4, v5, l_feed (a_feed) (by omega) (by omega) (by omega) hC hM (fun x w2 hw => ⟨v1, v2, v3, v4, v5, hw⟩) (fun st' I' A' t' g1 g2 g3 => next _ _ _ _ _ _ (by omega) (by omega) (by omega) g2 g3)⟩
      · exact bL_law_283 _ _ _ (⟨v1, l_call (a_end) hC hM (fun x w2 hw => ⟨v1, hw⟩) nx⟩)
      · exact bL_law_306 _ _ _ (⟨v1, l_call (a_told) hC hM (fun x w2 hw => ⟨v1, hw⟩) nx⟩)
      · exact bL_law_329 _ _ _ (⟨v1, l_call (a_fault) hC hM (fun x w2 hw => ⟨v1, hw⟩) nx⟩)
      · exact bL_law_352 _ _ _ (⟨v1, l_call (a_count) hC hM (fun x w2 hw => ⟨v1, hw⟩) nx⟩)
      · exact bL_law_375 _ _ _ (⟨v1, v2, l_call (zSame.ac q_look) hC hM (fun x w2 hw => ⟨v1, v2, hw⟩) nx⟩)
      · exact bL_law_408 _ _ _ (⟨v1, v2, v3, l_call (zSame.ac q_of) hC hM (fun x w2 hw => ⟨v1, v2, v3, hw⟩) nx⟩)
      · exact bL_law_451 _ _ _ (⟨v1, v2, l_call (zSame.ac q_is) hC hM (fun x w2 hw => ⟨v1, v2, hw⟩) nx⟩)
      · exact bL_law_484 _ _ _ (⟨v1, v2, l_call (zSame.ac q_chain) hC hM (fun x w2 hw => ⟨v1, v2, hw⟩) nx⟩)
      · exact bL_law_517 _ _ _ (⟨v1, l_call (zSame.ac q_anti) hC hM (fun x w2 hw => ⟨v1, hw⟩) nx⟩)
      · exact bL_law_540 _ _ _ (⟨v1, v2, l_call (zSame.ac q_part) hC hM (fun x w2 hw => ⟨v1, v2, hw⟩) nx⟩)
      · exact bL_law_573 _ _ _ (⟨v1, l_call (zSame.ac q_lines) hC hM (fun x w2 hw => ⟨v1, hw⟩) nx⟩)
      · exact bL_law_596 _ _ _ (⟨v1, v2, v3, l_call (zSame.ac q_line) hC hM (fun x w2 hw => ⟨v1, v2, v3, hw⟩) nx⟩)
      · exact bL_law_639 _ _ _ (⟨v1, v2, l_call (zSame.ac q_rank) hC hM (fun x w2 hw => ⟨v1, v2, hw⟩) nx⟩)
      · exact bL_law_672 _ _ _ (⟨v1, v2, v3, l_call (zSame.ac q_deep) hC hM (fun x w2 hw => ⟨v1, v2, v3, hw⟩) nx⟩)
      · exact bL_law_715 _ _ _ (⟨v1, v2, l_call (zSame.ac q_through) hC hM (fun x w2 hw => ⟨v1, v2, hw⟩) nx⟩)
      · exact bL_law_748 _ _ _ (⟨v1, v2, v3, l_call (zSame.ac q_before) hC hM (fun x w2 hw => ⟨v1, v2, v3, hw⟩) nx⟩)
      · exact bL_law_791 _ _ _ (⟨v1, v2, v3, l_call (zSame.ac q_at) hC hM (fun x w2 hw => ⟨v1, v2, v3, hw⟩) nx⟩)
      · exact bL_law_834 _ _ _ (⟨v1, v2, v3, l_call (zSame.ac q_mean) hC hM (fun x w2 hw => ⟨v1, v2, v3, hw⟩) nx⟩)
      · exact bL_law_877 _ _ _ (⟨v1, v2, l_call (zSame.ac q_balance) hC hM (fun x w2 hw => ⟨v1, v2, hw⟩) nx⟩)
      · exact bL_law_910 _ _ _ (⟨v1, v2, l_call (zSame.ac q_jumps) hC hM (fun x w2 hw => ⟨v1, v2, hw⟩) nx⟩)
      · exact bL_law_943 _ _ _ (⟨v1, v2, v3, l_call (zSame.ac q_jumper) hC hM (fun x w2 hw => ⟨v1, v2, v3, hw⟩) nx⟩)
      · exact bL_law_986 _ _ _ (⟨v1, v2, l_call (zSame.ac q_jumpsOf) hC hM (fun x w2 hw => ⟨v1, v2, hw⟩) nx⟩)
      · exact bL_law_1019 _ _ _ (⟨v1, v2, l_call (zSame.ac q_critical) hC hM (fun x w2 hw => ⟨v1, v2, hw⟩) nx⟩)
      · exact bL_law_1052 _ _ _ (⟨v1, v2, l_call (zSame.ac q_reversed) hC hM (fun x w2 hw => ⟨v1, v2, hw⟩) nx⟩)
      · exact bL_law_1085 _ _ _ (⟨v1, v2, l_call (zSame.ac q_rowsAre) hC hM (fun x w2 hw => ⟨v1, v2, hw⟩) nx⟩)
      · exact bL_law_1118 _ _ _ (⟨v1, v2, l_call (zSame.ac q_ahead) hC hM (fun x w2 hw => ⟨v1, v2, hw⟩) nx⟩)
      · exact bL_law_1151 _ _ _ (⟨v1, v2, v3, l_call (a_realizes) hC hM (fun x w2 hw => ⟨v1, v2, v3, hw⟩) nx⟩)
      · exact bL_law_1194 _ _ _ (⟨v1, v2, l_call (zSame.ac q_dimension) hC hM (fun x w2 hw => ⟨v1, v2, hw⟩) nx⟩)
      · exact bL_law_1227 _ _ _ (⟨v1, v2, v3, l_call (zSame.ac q_row) hC hM (fun x w2 hw => ⟨v1, v2, v3, hw⟩) nx⟩)
      · exact bL_law_1270 _ _ _ (⟨v1, v2, l_call (a_adds) hC hM (fun x w2 hw => ⟨v1, v2, hw⟩) nx⟩)
      · exact bL_law_1303 _ _ _ (⟨v1, v2, l_call (a_takes) hC hM (fun x w2 hw => ⟨v1, v2, hw⟩) nx⟩)
      · exact bL_law_1336 _ _ _ (⟨v1, v2, v3, l_call (a_puts) hC hM (fun x w2 hw => ⟨v1, v2, v3, hw⟩) nx⟩)
      · exact bL_law_1379 _ _ _ (⟨v1, v2, v3, l_call (a_cuts) hC hM (fun x w2 hw => ⟨v1, v2, v3, hw⟩) nx⟩)
      · exact bL_law_1422 _ _ _ (⟨v1, l_call (a_flip) hC hM (fun x w2 hw => ⟨v1, hw⟩) nx⟩)
      · exact bL_law_1445 _ _ _ (⟨v1, v2, l_call (a_without) hC hM (fun x w2 hw => ⟨v1, v2, hw⟩) nx⟩)
      · exact bL_law_1478 _ _ _ (⟨v1, v2, v3, v4, l_call (a_joins) hC hM (fun x w2 hw => ⟨v1, v2, v3, v4, hw⟩) nx⟩)
      · exact bL_law_1531 _ _ _ (⟨v1, v2, l_call (zSame.ac q_alike) hC hM (fun x w2 hw => ⟨v1, v2, hw⟩) nx⟩)
      · exact bL_law_1564 _ _ _ (⟨v1, l_call (zSame.ac q_selves) hC hM (fun x w2 hw => ⟨v1, hw⟩) nx⟩)
      · exact bL_law_1587 _ _ _ (⟨v1, l_call (a_drops) hC hM (fun x w2 hw => ⟨v1, hw⟩) nx⟩)
      · exact bL_law_1610 _ _ _ (l_call (a_undo) hC hM (fun x w2 hw => hw) nx)
      · exact bL_law_1623 _ _ _ (⟨v1, l_call (a_tell) hC hM (fun x w2 hw => ⟨v1, hw⟩) nx⟩)
      · exact bL_law_1646 _ _ _ (⟨v1, l_call (a_octet) hC hM (fun x w2 hw => ⟨v1, hw⟩) nx⟩)
      · exact nx st I A hC hM
end ZLo
