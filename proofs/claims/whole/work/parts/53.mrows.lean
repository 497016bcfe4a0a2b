/-! ===== rows, the reference's; row, ahead, jumpsOf, rowsAre ===== -/
theorem zB_i {α : Sort _} {c : Prop} [Decidable c] (a b : α) : (if zB (decide c) = 0 then a else b) = if c then b else a := zB_ifP c a b
section ZMw
variable {X : zX} {I A : zF2} {t : zW} {s n R : Nat} {u : Nat → Nat} {h : Nat → Nat → Nat}
theorem m_placeIn (H : zMR A s n u R h) {r a : Nat} (hr : r < R) (ha : a < n) : zRd X 2 MX12_placeIn [.ref 98, .int (nI s), .int (nI r), .int (nI a)] (zWd I A t) (nI (zpl n (h r) a)) := by
  have hn := H.2.1.1
  have h6 := H.2.2.1.1
  obtain ⟨f1, f2⟩ := H.2.2.1.f hr
  obtain ⟨h1, h2, h3⟩ := zpl_ok hn f1 f2 ha
  refine eX12_placeIn _ _ _ _ (bX12_placeIn_0 _ _ _ _ ?_)
  refine zdown (P := fun i => zRn X 2 0 0 MX12_placeIn 3 [some (.ref 98), some (.int (nI s)), some (.int (nI r)), some (.int (nI a)), some (.int (nI i))] [] (zWd I A t) _) (n := zpl n (h r) a) ?_ (fun i hi ih => ?_) 0 (Nat.zero_le _)
  · refine bX12_placeIn_3 _ _ _ _ _ (zvRd ob_98 (m_rowAt H (by omega) (by omega)) (by decide) ?_)
    rw [h2, if_pos rfl]
    exact ⟨rfl, rfl⟩
  · refine bX12_placeIn_3 _ _ _ _ _ (zvRd ob_98 (m_rowAt H (by omega) (by omega)) (by decide) ?_)
    have := f1 i (by omega)
    rw [zi_eq (by omega) (by omega), if_neg (h3 i hi), nI_1]
    exact ih
theorem m_areLines (H : zMR A s n u R h) : zRd X 3 MX12_areLines [.ref 98, .int (nI s)] (zWd I A t) (zB (zAL n u R h)) := by
  have h6 := H.2.2.1.1
  refine eX12_areLines _ _ (bX12_areLines_0 _ _ ?_)
  refine zloopA (R := fun r b => zRn X 3 0 0 MX12_areLines 2 [some (.ref 98), some (.int (nI s)), some (.int (nI r))] [] (zWd I A t) (fun v w1 => v = some (.int (zB b)) ∧ w1 = zWd I A t)) ?_ (fun r hr b e1 e2 => ?_)
  · refine bX12_areLines_2 _ _ _ (zvRd ob_98 (m_rows H) (by decide) ?_)
    rw [if_pos (Int32.le_refl _)]
    exact ⟨rfl, rfl⟩
  · refine bX12_areLines_2 _ _ _ (zvRd ob_98 (m_rows H) (by decide) ?_)
    rw [zi_le (by omega) (by omega), if_neg (by omega)]
    refine zvRd ob_98 (m_isLine H hr) (by decide) ?_
    rw [zB_if]
    by_cases c : zIL n u (h r) = true
    · rw [if_pos c, nI_1]
      exact e1 c
    · rw [if_neg c]
      rw [Bool.not_eq_true] at c
      rw [e2 c]
      exact ⟨rfl, rfl⟩
theorem zahD_s {r a i : Nat} (H : zHo n R h) (hn : n ≤ 8) (hr : r < R) (ha : a < n) (hi : i < n) (g : zpl n (h r) a ≤ i) : zmk n (fun b => zaB n h a r b && (!decide (zpl n (h r) a ≤ zpl n (h r) b) || !decide (zpl n (h r) b < i + 1))) = zdf (zmk n (fun b => zaB n h a r b && (!decide (zpl n (h r) a ≤ zpl n (h r) b) || !decide (zpl n (h r) b < i)))) (2 ^ h r i) := by
  obtain ⟨f1, f2⟩ := H.f hr
  refine zext (fun b => ?_)
  rw [zdf_bit, zmk_bit, zmk_bit, Nat.testBit_two_pow]
  by_cases hb : b < n
  · by_cases e : h r i = b
    · have e1 := zpl_f hn f1 f2 hi
      rw [e] at e1
      simp [e, e1, g]
    · have e1 : zpl n (h r) b ≠ i := fun q => e (by
        have := (zpl_ok hn f1 f2 hb).2.1
        rw [q] at this
        exact this)
      have : decide (zpl n (h r) b < i + 1) = decide (zpl n (h r) b < i) := decide_eq_decide.mpr (by omega)
      rw [this]
      simp [e]
  · simp [hb]
theorem m_aheadOf (H : zMR A s n u R h) {a : Nat} (ha : a < n) : zRd X 3 MX12_aheadOf [.ref 98, .int (nI s), .int (nI a)] (zWd I A t) (nI (zah n R h a)) := by
  have h8 := H.2.1.1
  have h28 := z28 h8
  have h6 := H.2.2.1.1
  refine eX12_aheadOf _ _ _ (bX12_aheadOf_0 _ _ _ (zvRd ob_98 (m_many H) (by decide) ?_))
  have e0 : (1 : Int32) <<< (nI n &&& 31) - 1 = nI (2 ^ n - 1) := by
    rw [zb_1 n (by omega)]
    exact pk_sub Nat.one_le_two_pow
  rw [e0, zb_1 a (by omega), zb_df, ← zaB_0 h ha]
  refine zdown (P := fun r => zRn X 3 0 0 MX12_aheadOf 19 [some (.ref 98), some (.int (nI s)), some (.int (nI a)), some (.int (nI (zmk n (fun b => zaB n h a r b)))), some (.int (nI r)), none] [] (zWd I A t) _) (n := R) ?_ (fun r hr ih => ?_) 0 (Nat.zero_le _)
  · refine bX12_aheadOf_19 _ _ _ _ _ (zvRd ob_98 (m_rows H) (by decide) ?_)
    rw [if_pos (Int32.le_refl _)]
    exact ⟨rfl, rfl⟩
  · refine bX12_aheadOf_19 _ _ _ _ _ (zvRd ob_98 (m_rows H) (by decide) ?_)
    rw [zi_le (by omega) (by omega), if_neg (by omega)]
    refine zvRd ob_98 (m_placeIn H hr ha) (by decide) ?_
    obtain ⟨f1, f2⟩ := H.2.2.1.f hr
    have hpa := (zpl_ok h8 f1 f2 ha).1
    have inner : ∀ i, i ≤ n → zpl n (h r) a ≤ i → zRn X 3 0 0 MX12_aheadOf 39 [some (.ref 98), some (.int (nI s)), some (.int (nI a)), some (.int (nI (zmk n (fun b => zaB n h a r b && (!decide (zpl n (h r) a ≤ zpl n (h r) b) || !decide (zpl n (h r) b < i)))))), some (.int (nI r)), some (.int (nI i))] [] (zWd I A t) (fun v w1 => v = some (.int (nI (zah n R h a))) ∧ w1 = zWd I A t) := by
      refine zdown ?_ ?_
      · intro _
        refine bX12_aheadOf_39 _ _ _ _ _ _ (zvRd ob_98 (m_many H) (by decide) ?_)
        rw [if_pos (Int32.le_refl _), nI_1]
        have e : zmk n (fun b => zaB n h a r b && (!decide (zpl n (h r) a ≤ zpl n (h r) b) || !decide (zpl n (h r) b < n))) = zmk n (fun b => zaB n h a (r + 1) b) := zmk_cong (fun b hb => by
          rw [zaB_s]
          have := (zpl_ok h8 f1 f2 hb).1
          have e2 : decide (zpl n (h r) b < zpl n (h r) a) = !decide (zpl n (h r) a ≤ zpl n (h r) b) := by
            by_cases c : zpl n (h r) b < zpl n (h r) a
            · rw [decide_eq_true c, decide_eq_false (by omega)]
              rfl
            · rw [decide_eq_false c, decide_eq_true (by omega)]
              rfl
          simp [this, e2])
        rw [e]
        exact ih
      · intro i hi ihi g
        have ihi := ihi (by omega)
        refine bX12_aheadOf_39 _ _ _ _ _ _ (zvRd ob_98 (m_many H) (by decide) ?_)
        rw [zi_le (by omega) (by omega), if_neg (by omega)]
        have hfi := f1 i hi
        refine zvRd ob_98 (m_rowAt H (by omega) (by omega)) (by decide) ?_
        rw [zahD_s H.2.2.1 h8 hr ha hi g] at ihi
        rw [zb_1 _ (by omega), zb_df, nI_1]
        exact ihi
    have i0 := inner (zpl n (h r) a) (by omega) (Nat.le_refl _)
    have e : zmk n (fun b => zaB n h a r b && (!decide (zpl n (h r) a ≤ zpl n (h r) b) || !decide (zpl n (h r) b < zpl n (h r) a))) = zmk n (fun b => zaB n h a r b) := zmk_cong (fun b hb => by
      by_cases c : zpl n (h r) a ≤ zpl n (h r) b
      · rw [decide_eq_false (show ¬ zpl n (h r) b < zpl n (h r) a by omega)]
        simp
      · rw [decide_eq_false c]
        simp)
    rw [e] at i0
    exact i0
theorem m_isRealizer (H : zMR A s n u R h) : zRd X 4 MX12_isRealizer [.ref 98, .int (nI s)] (zWd I A t) (zB (zRz n u R h)) := by
  have h8 := H.2.1.1
  have h28 := z28 h8
  have h6 := H.2.2.1.1
  have done : ∀ k, k ≤ n → zRn X 4 0 0 MX12_isRealizer 24 [some (.ref 98), some (.int (nI s)), some (.int 0), some (.int (nI k))] [] (zWd I A t) (zQb (zWd I A t) false) := fun k hk => by
    refine bX12_isRealizer_24 _ _ _ _ (zvRd ob_98 (m_many H) (by decide) ?_)
    rw [zi_le (by omega) (by omega)]
    by_cases c : n ≤ k
    · rw [if_pos c]
      exact ⟨zB_ok false, rfl, rfl⟩
    · rw [if_neg c, if_pos rfl]
      exact ⟨zB_ok false, rfl, rfl⟩
  refine eX12_isRealizer _ _ (bX12_isRealizer_0 _ _ (zvRd ob_98 (m_rows H) (by decide) ?_))
  show if nI R ≤ nI 0 then _ else _
  rw [zi_le (by omega) (by omega)]
  unfold zRz
  by_cases hR : R ≤ 0
  · rw [if_pos hR, decide_eq_false (by omega)]
    exact bX12_isRealizer_20 _ _ (bX12_isRealizer_21 _ _ _ (done 0 (Nat.zero_le _)))
  · rw [if_neg hR, decide_eq_true (by omega), Bool.true_and]
    refine zvRd ob_98 (m_areLines H) (by decide) ?_
    rw [zB_if]
    by_cases hA : zAL n u R h = true
    · rw [if_pos hA]
      have e : zall n (fun a => decide (zah n R h a &&& zfr n u a = 0)) = zall n (fun a => decide (zah n R h a = u a)) := by
        rw [Bool.eq_iff_iff, zall_iff, zall_iff]
        constructor
        · intro q a ha
          have := q a ha
          rw [decide_eq_true_eq] at this ⊢
          exact (zRz_eq H.2.1 H.2.2.1 (by omega) hA ha).mp this
        · intro q a ha
          have := q a ha
          rw [decide_eq_true_eq] at this ⊢
          exact (zRz_eq H.2.1 H.2.2.1 (by omega) hA ha).mpr this
      rw [hA, Bool.true_and, e]
      refine bX12_isRealizer_21 _ _ _ ?_
      refine zloopA (R := fun a b => zRn X 4 0 0 MX12_isRealizer 24 [some (.ref 98), some (.int (nI s)), some (.int 1), some (.int (nI a))] [] (zWd I A t) (fun v w1 => v = some (.int (zB b)) ∧ w1 = zWd I A t)) ?_ (fun a ha b e1 e2 => ?_)
      · refine bX12_isRealizer_24 _ _ _ _ (zvRd ob_98 (m_many H) (by decide) ?_)
        rw [if_pos (Int32.le_refl _)]
        exact ⟨zB_ok true, rfl, rfl⟩
      · refine bX12_isRealizer_24 _ _ _ _ (zvRd ob_98 (m_many H) (by decide) ?_)
        have l1 := zah_lt (n := n) (R := R) (h := h) a
        have l2 := H.2.1.u31 a
        rw [zi_le (by omega) (by omega), if_neg (by omega), if_neg (by decide)]
        refine zvRd ob_98 (m_aheadOf H ha) (by decide) (zvRd ob_98 (m_under H (by omega)) (by decide) ?_)
        rw [zi_eq (by omega) (by omega)]
        by_cases c : zah n R h a = u a
        · rw [if_pos c]
          refine bX12_isRealizer_57 _ _ _ _ ?_
          rw [nI_1]
          exact e1 (decide_eq_true c)
        · rw [if_neg c]
          refine bX12_isRealizer_57 _ _ _ _ ?_
          rw [nI_1, e2 (decide_eq_false c)]
          exact done (a + 1) (by omega)
    · rw [if_neg hA]
      rw [Bool.not_eq_true] at hA
      rw [hA]
      exact bX12_isRealizer_20 _ _ (bX12_isRealizer_21 _ _ _ (done 0 (Nat.zero_le _)))
theorem m_unL (H : zMR A s n u R h) {r q : Nat} (hr : r < R) (hq : q < r) {Q : Option Value → zW → Prop} (k1 : zsr n (h r) (h q) = false → zRn X 3 0 0 MX12_areUnlike 13 [some (.ref 98), some (.int (nI s)), some (.int (nI r)), some (.int (nI (q + 1))), none, none] [] (zWd I A t) Q) (k2 : zsr n (h r) (h q) = true → Q (some (.int 0)) (zWd I A t)) :
    zRn X 3 0 0 MX12_areUnlike 24 [some (.ref 98), some (.int (nI s)), some (.int (nI r)), some (.int (nI q)), some (.int 1), some (.int 0)] [] (zWd I A t) Q := by
  have h8 := H.2.1.1
  have h6 := H.2.2.1.1
  obtain ⟨f1, -⟩ := H.2.2.1.f hr
  obtain ⟨g1, -⟩ := H.2.2.1.f (show q < R by omega)
  have no : zsr n (h r) (h q) = false → ∀ k, k ≤ n → zRn X 3 0 0 MX12_areUnlike 24 [some (.ref 98), some (.int (nI s)), some (.int (nI r)), some (.int (nI q)), some (.int 0), some (.int (nI k))] [] (zWd I A t) Q := by
    intro hz
    refine zdown ?_ ?_
    · refine bX12_areUnlike_24 _ _ _ _ _ _ (zvRd ob_98 (m_many H) (by decide) ?_)
      rw [if_pos (Int32.le_refl _), if_pos rfl, nI_1]
      exact k1 hz
    · intro k hk ih
      refine bX12_areUnlike_24 _ _ _ _ _ _ (zvRd ob_98 (m_many H) (by decide) ?_)
      rw [zi_le (by omega) (by omega), if_neg (by omega), if_pos rfl]
      refine bX12_areUnlike_62 _ _ _ _ _ (bX12_areUnlike_63 _ _ _ _ _ _ ?_)
      rw [nI_1]
      exact ih
  refine zloopA (n := n) (p := fun i => decide (h r i = h q i)) (R := fun k b => zsr n (h r) (h q) = b → zRn X 3 0 0 MX12_areUnlike 24 [some (.ref 98), some (.int (nI s)), some (.int (nI r)), some (.int (nI q)), some (.int 1), some (.int (nI k))] [] (zWd I A t) Q) ?_ ?_ rfl
  · intro hz
    refine bX12_areUnlike_24 _ _ _ _ _ _ (zvRd ob_98 (m_many H) (by decide) ?_)
    rw [if_pos (Int32.le_refl _), if_neg (by decide)]
    exact k2 hz
  · intro k hk b e1 e2 hz
    have := f1 k hk
    have := g1 k hk
    refine bX12_areUnlike_24 _ _ _ _ _ _ (zvRd ob_98 (m_many H) (by decide) ?_)
    rw [zi_le (by omega) (by omega), if_neg (by omega), if_neg (by decide)]
    refine zvRd ob_98 (m_rowAt H (by omega) (by omega)) (by decide) (zvRd ob_98 (m_rowAt H (by omega) (by omega)) (by decide) ?_)
    rw [zi_eq (by omega) (by omega)]
    by_cases c : h r k = h q k
    · rw [if_pos c]
      refine bX12_areUnlike_63 _ _ _ _ _ _ ?_
      rw [nI_1]
      exact e1 (decide_eq_true c) hz
    · rw [if_neg c]
      refine bX12_areUnlike_62 _ _ _ _ _ (bX12_areUnlike_63 _ _ _ _ _ _ ?_)
      rw [nI_1]
      rw [e2 (decide_eq_false c)] at hz
      exact no hz _ (by omega)
theorem m_areUnlike (H : zMR A s n u R h) : zRd X 3 MX12_areUnlike [.ref 98, .int (nI s)] (zWd I A t) (zB (zUl n R h)) := by
  have h8 := H.2.1.1
  have h6 := H.2.2.1.1
  refine eX12_areUnlike _ _ (bX12_areUnlike_0 _ _ ?_)
  refine zloopA (R := fun r b => zRn X 3 0 0 MX12_areUnlike 2 [some (.ref 98), some (.int (nI s)), some (.int (nI r)), none, none, none] [] (zWd I A t) (fun v w1 => v = some (.int (zB b)) ∧ w1 = zWd I A t)) ?_ (fun r hr b e1 e2 => ?_)
  · refine bX12_areUnlike_2 _ _ _ (zvRd ob_98 (m_rows H) (by decide) ?_)
    rw [if_pos (Int32.le_refl _)]
    exact ⟨rfl, rfl⟩
  · refine bX12_areUnlike_2 _ _ _ (zvRd ob_98 (m_rows H) (by decide) ?_)
    rw [zi_le (by omega) (by omega), if_neg (by omega)]
    generalize hp : (fun q => !zsr n (h r) (h q)) = p at *
    have inner := zloopA (n := r) (p := p) (R := fun k c => ((c = true → zRn X 3 0 0 MX12_areUnlike 2 [some (.ref 98), some (.int (nI s)), some (.int (nI (r + 1))), none, none, none] [] (zWd I A t) (fun v w1 => v = some (.int (zB b)) ∧ w1 = zWd I A t)) → (c = false → b = false) → zRn X 3 0 0 MX12_areUnlike 13 [some (.ref 98), some (.int (nI s)), some (.int (nI r)), some (.int (nI k)), none, none] [] (zWd I A t) (fun v w1 => v = some (.int (zB b)) ∧ w1 = zWd I A t))) (fun g1 g2 => by
      refine bX12_areUnlike_13 _ _ _ _ ?_
      rw [if_pos (Int32.le_refl _), nI_1]
      exact g1 rfl) (fun k hk c c1 c2 g1 g2 => by
      refine bX12_areUnlike_13 _ _ _ _ ?_
      rw [zi_le (by omega) (by omega), if_neg (by omega)]
      refine m_unL H hr hk (fun d => c1 (by rw [← hp]; simp [d]) g1 g2) (fun d => ?_)
      rw [g2 (c2 (by rw [← hp]; simp [d]))]
      exact ⟨rfl, rfl⟩)
    exact inner e1 e2
end ZMw
section ZQr
variable {X : zX} {S : Nat → zSl} {x y z : Int32}
theorem q_jumpsOf : zSame X MX11_jumpsOf MX12_jumpsOf [.int x, .int y] S := by
  rcases zslot S x with ⟨s, hs⟩ | hn
  · by_cases hy : zin (S s).2.2.1 y = true
    · obtain ⟨r, hr, rfl⟩ := zin_e.mp hy
      refine ⟨nI (zjm (S s).1 (S s).2.1 ((S s).2.2.2 r)), fun I A t hC => zQy.mk 5 (by decide) ?_, fun I A t hM => zQy.mk 5 (by decide) ?_⟩
      · have h0 := hC s hs.1
        exact eX11_jumpsOf _ _ _ (bX11_jumpsOf_0 _ _ _ (zvO1 ob_0 (v_orderWithRow2 hC hs hr) (by decide) (zvRd h0.1.1.ob (v_jumpsIn h0.1 h0.2 hr hs.2.2) (by decide) (zQk.id _ _ _ _))))
      · have h1 := m_row1 (X := X) (I := I) (t := t) (y := nI r) hM hs
        rw [hy] at h1
        obtain ⟨s3, rfl, s0⟩ := hs
        have H : zMR A s (S s).1 (S s).2.1 (S s).2.2.1 (S s).2.2.2 := hM s s3
        have h8 := H.2.1.1
        have h6 := H.2.2.1.1
        refine eX12_jumpsOf _ _ _ (bX12_jumpsOf_0 _ _ _ (zvRd ob_98 h1 (by decide) ?_))
        rw [if_neg (by decide)]
        generalize (S s).1 = n at *
        generalize (S s).2.1 = u at *
        generalize (S s).2.2.1 = R at *
        generalize (S s).2.2.2 = h at *
        obtain ⟨f1, -⟩ := H.2.2.1.f hr
        have key := zdown (P := fun i => 1 ≤ i → zRn X 5 0 0 MX12_jumpsOf 17 [some (.ref 98), some (.int (nI s)), some (.int (nI r)), some (.int (nI (zsm i (fun i => if i = 0 then 0 else if zlt u (h r (i - 1)) (h r i) = true then 0 else 1)))), some (.int (nI i))] [] (zWd I A t) (zQk I A t (nI (zjm n u (h r))))) (n := n) (fun _ => by
          refine bX12_jumpsOf_17 _ _ _ _ _ (zvRd ob_98 (m_many H) (by decide) ?_)
          rw [if_pos (Int32.le_refl _)]
          exact zQk.id _ _ _ _) (fun i hi ih g => by
          have ih := ih (by omega)
          rw [zsm_s, if_neg (by omega)] at ih
          have g1 := f1 i hi
          have g2 := f1 (i - 1) (by omega)
          refine bX12_jumpsOf_17 _ _ _ _ _ (zvRd ob_98 (m_many H) (by decide) ?_)
          rw [zi_le (by omega) (by omega), if_neg (by omega)]
          have e1 : nI i - 1 = nI (i - 1) := pk_sub g
          rw [e1]
          refine zvRd ob_98 (m_rowAt H (by omega) (by omega)) (by decide) (zvRd ob_98 (m_rowAt H (by omega) (by omega)) (by decide) (zvRd ob_98 (m_isBelow H (by omega) (by omega)) (by decide) ?_))
          rw [zB_if]
          by_cases c : zlt u (h r (i - 1)) (h r i) = true
          · rw [if_pos c]
            rw [if_pos c] at ih
            refine bX12_jumpsOf_59 _ _ _ _ _ _ ?_
            show zRn X 5 0 0 _ _ [_, _, _, some (.int (_ + nI 0)), _] _ _ _
            rw [nI_1, nI_add]
            exact ih
          · rw [if_neg c]
            rw [if_neg c] at ih
            refine bX12_jumpsOf_59 _ _ _ _ _ _ ?_
            rw [nI_1, nI_1]
            exact ih) 1 s0 (Nat.le_refl _)
        rw [zsm_s, zsm_z, if_pos rfl] at key
        exact key
    · rw [Bool.not_eq_true] at hy
      refine ⟨-2, fun I A t hC => zQy.mk 5 (by decide) ?_, fun I A t hM => zQy.mk 5 (by decide) ?_⟩
      · exact eX11_jumpsOf _ _ _ (bX11_jumpsOf_0 _ _ _ (zvO0 ob_0 (v_orderWithRow1 hC hs hy) (by decide) (zQk.id _ _ _ _)))
      · refine eX12_jumpsOf _ _ _ (bX12_jumpsOf_0 _ _ _ (zvRd ob_98 (m_row1 hM hs) (by decide) ?_))
        rw [zB_f hy]
        exact zQk.id _ _ _ _
  · refine ⟨-2, fun I A t hC => zQy.mk 5 (by decide) ?_, fun I A t hM => zQy.mk 5 (by decide) ?_⟩
    · exact eX11_jumpsOf _ _ _ (bX11_jumpsOf_0 _ _ _ (zvO0 ob_0 (v_orderWithRow0 hC hn) (by decide) (zQk.id _ _ _ _)))
    · refine eX12_jumpsOf _ _ _ (bX12_jumpsOf_0 _ _ _ (zvRd ob_98 (m_row0 hM hn) (by decide) ?_))
      rw [if_pos rfl]
      exact zQk.id _ _ _ _
theorem q_row : zSame X MX11_row MX12_row [.int x, .int y, .int z] S := by
  rcases zslot S x with ⟨s, hs⟩ | hn
  · by_cases hy : zin (S s).2.2.1 y = true
    · obtain ⟨r, hr, rfl⟩ := zin_e.mp hy
      by_cases hz : zin (S s).1 z = true
      · obtain ⟨i, hi, rfl⟩ := zin_e.mp hz
        refine ⟨nI ((S s).2.2.2 r i), fun I A t hC => zQy.mk 5 (by decide) ?_, fun I A t hM => zQy.mk 5 (by decide) ?_⟩
        · have h0 := hC s hs.1
          have h8 := h0.1.n8
          refine eX11_row _ _ _ _ (bX11_row_0 _ _ _ _ (zvO1 ob_0 (v_orderWithRow2 hC hs hr) (by decide) (zvRd h0.1.1.ob (v_hasN h0.1 (by omega)) (by decide) ?_)))
          rw [zB_ifP, if_pos hi]
          exact zvRf h0.1.1.ob (v_rowsOf h0.1.1) (by decide) (zvRd h0.1.1.rob (v_rthing h0.1.1 h0.2 h8 hr hi) (by decide) (zQk.id _ _ _ _))
        · have h1 := m_row1 (X := X) (I := I) (t := t) (y := nI r) hM hs
          rw [hy] at h1
          obtain ⟨s3, rfl, s0⟩ := hs
          have H := hM s s3
          have h8 := H.2.1.1
          have h6 := H.2.2.1.1
          refine eX12_row _ _ _ _ (bX12_row_0 _ _ _ _ (zvRd ob_98 h1 (by decide) ?_))
          rw [if_neg (by decide)]
          refine zvRd ob_98 (m_many H) (by decide) (zcRd (m_inN _ s0 (by omega)) (by decide) ?_)
          rw [zB_t hz]
          exact zvRd ob_98 (m_rowAt H (by omega) (by omega)) (by decide) (zQk.id _ _ _ _)
      · rw [Bool.not_eq_true] at hz
        refine ⟨-2, fun I A t hC => zQy.mk 5 (by decide) ?_, fun I A t hM => zQy.mk 5 (by decide) ?_⟩
        · have h0 := hC s hs.1
          have h8 := h0.1.n8
          refine eX11_row _ _ _ _ (bX11_row_0 _ _ _ _ (zvO1 ob_0 (v_orderWithRow2 hC hs hr) (by decide) (zvRd h0.1.1.ob (v_has h0.1 z) (by decide) ?_)))
          rw [zin_h (by omega), zB_f hz]
          exact zQk.id _ _ _ _
        · have h1 := m_row1 (X := X) (I := I) (t := t) (y := nI r) hM hs
          rw [hy] at h1
          obtain ⟨s3, rfl, s0⟩ := hs
          have H := hM s s3
          have h8 := H.2.1.1
          refine eX12_row _ _ _ _ (bX12_row_0 _ _ _ _ (zvRd ob_98 h1 (by decide) ?_))
          rw [if_neg (by decide)]
          refine zvRd ob_98 (m_many H) (by decide) (zcRd (m_inN _ s0 (by omega)) (by decide) ?_)
          rw [zB_f hz]
          exact zQk.id _ _ _ _
    · rw [Bool.not_eq_true] at hy
      refine ⟨-2, fun I A t hC => zQy.mk 5 (by decide) ?_, fun I A t hM => zQy.mk 5 (by decide) ?_⟩
      · exact eX11_row _ _ _ _ (bX11_row_0 _ _ _ _ (zvO0 ob_0 (v_orderWithRow1 hC hs hy) (by decide) (zQk.id _ _ _ _)))
      · refine eX12_row _ _ _ _ (bX12_row_0 _ _ _ _ (zvRd ob_98 (m_row1 hM hs) (by decide) ?_))
        rw [zB_f hy]
        exact zQk.id _ _ _ _
  · refine ⟨-2, fun I A t hC => zQy.mk 5 (by decide) ?_, fun I A t hM => zQy.mk 5 (by decide) ?_⟩
    · exact eX11_row _ _ _ _ (bX11_row_0 _ _ _ _ (zvO0 ob_0 (v_orderWithRow0 hC hn) (by decide) (zQk.id _ _ _ _)))
    · refine eX12_row _ _ _ _ (bX12_row_0 _ _ _ _ (zvRd ob_98 (m_row0 hM hn) (by decide) ?_))
      rw [if_pos rfl]
      exact zQk.id _ _ _ _
theorem q_ahead : zSame X MX11_ahead MX12_ahead [.int x, .int y] S := by
  rcases zslot S x with ⟨s, hs⟩ | hn
  · by_cases hy : zin (S s).1 y = true
    · obtain ⟨a, ha, rfl⟩ := zin_e.mp hy
      refine ⟨nI (zah (S s).1 (S s).2.2.1 (S s).2.2.2 a), fun I A t hC => zQy.mk 5 (by decide) ?_, fun I A t hM => zQy.mk 5 (by decide) ?_⟩
      · have h0 := hC s hs.1
        exact eX11_ahead _ _ _ (bX11_ahead_0 _ _ _ (zvO1 ob_0 (v_orderWith2 hC hs ha) (by decide) (zvRd h0.1.1.ob (v_alwaysAheadOf h0.1 h0.2 ha) (by decide) (zQk.id _ _ _ _))))
      · have h1 := m_thing1 (X := X) (I := I) (t := t) (y := nI a) hM hs
        obtain ⟨s3, rfl, s0⟩ := hs
        refine eX12_ahead _ _ _ (bX12_ahead_0 _ _ _ (zvRd ob_98 h1 (by decide) ?_))
        rw [zB_t hy]
        exact zvRd ob_98 (m_aheadOf (hM s s3) ha) (by decide) (zQk.id _ _ _ _)
    · rw [Bool.not_eq_true] at hy
      refine ⟨-2, fun I A t hC => zQy.mk 5 (by decide) ?_, fun I A t hM => zQy.mk 5 (by decide) ?_⟩
      · exact eX11_ahead _ _ _ (bX11_ahead_0 _ _ _ (zvO0 ob_0 (v_orderWith1 hC hs hy) (by decide) (zQk.id _ _ _ _)))
      · refine eX12_ahead _ _ _ (bX12_ahead_0 _ _ _ (zvRd ob_98 (m_thing1 hM hs) (by decide) ?_))
        rw [zB_f hy]
        exact zQk.id _ _ _ _
  · refine ⟨-2, fun I A t hC => zQy.mk 5 (by decide) ?_, fun I A t hM => zQy.mk 5 (by decide) ?_⟩
    · exact eX11_ahead _ _ _ (bX11_ahead_0 _ _ _ (zvO0 ob_0 (v_orderWith0 hC hn) (by decide) (zQk.id _ _ _ _)))
    · refine eX12_ahead _ _ _ (bX12_ahead_0 _ _ _ (zvRd ob_98 (m_thing0 hM hn) (by decide) ?_))
      rw [if_pos rfl]
      exact zQk.id _ _ _ _
def zrak (n : Nat) (u : Nat → Nat) (R : Nat) (h : Nat → Nat → Nat) (k : Nat) : Bool := if k = 0 then zAL n u R h else if k = 1 then zRz n u R h else zUl n R h
theorem q_rowsAre : zSame X MX11_rowsAre MX12_rowsAre [.int x, .int y] S := by
  rcases zslot S x with ⟨s, hs⟩ | hn
  · by_cases hy : zin 3 y = true
    · obtain ⟨k, hk, rfl⟩ := zin_e.mp hy
      refine ⟨zB (zrak (S s).1 (S s).2.1 (S s).2.2.1 (S s).2.2.2 k), fun I A t hC => zQy.mk 6 (by decide) ?_, fun I A t hM => zQy.mk 6 (by decide) ?_⟩
      · have h0 := hC s hs.1
        have h8 := h0.1.n8
        refine eX11_rowsAre _ _ _ (bX11_rowsAre_0 _ _ _ (zvO1 ob_0 (v_orderIn1 hC hs) (by decide) ⟨fun e => ?_, fun e => ?_, fun e => ?_, fun e => ?_⟩))
        · have := zcase (by omega) (by decide) (show nI k = nI 0 from e)
          subst this
          exact zvRd h0.1.1.ob (v_allRowsAreLines h0.1 h0.2) (by decide) (zcRd (v_bit _) (by decide) (zQk.id _ _ _ _))
        · have := zcase (by omega) (by decide) (show nI k = nI 1 from e)
          subst this
          exact zvRd h0.1.1.ob (v_rowsRealize h0.1 h0.2) (by decide) (zcRd (v_bit _) (by decide) (zQk.id _ _ _ _))
        · have := zcase (by omega) (by decide) (show nI k = nI 2 from e)
          subst this
          exact zvRf h0.1.1.ob (v_rowsOf h0.1.1) (by decide) (zvRd h0.1.1.ob (v_size h0.1) (by decide) (zvRd h0.1.1.rob (v_allUnlike h0.1.1 h0.2 h8) (by decide) (zcRd (v_bit _) (by decide) (zQk.id _ _ _ _))))
        · exact absurd (znot (m := 3) rfl (by decide) hk) e
      · have h1 := m_ord1 (X := X) (I := I) (t := t) hM hs
        obtain ⟨s3, rfl, s0⟩ := hs
        have H := hM s s3
        refine eX12_rowsAre _ _ _ (bX12_rowsAre_0 _ _ _ (zvRd ob_98 h1 (by decide) ?_))
        rw [if_neg (by decide)]
        refine zcRd (m_inC (m := 2) _ (by decide) (by decide)) (by decide) ?_
        rw [zB_t hy]
        have go : ∀ b : Bool, zRn X 6 0 0 MX12_rowsAre 53 [none, none, none, none] [.int (zB b)] (zWd I A t) (zQk I A t (zB b)) := fun b => bX12_rowsAre_53 _ (by
          rw [zB_if]
          cases b
          · rw [if_neg (by decide)]
            exact zQk.id _ _ _ _
          · rw [if_pos rfl]
            exact zQk.id _ _ _ _)
        rcases (show k = 0 ∨ k = 1 ∨ k = 2 by omega) with rfl | rfl | rfl
        · rw [if_pos (by decide)]
          exact zvRd ob_98 (m_areLines H) (by decide) (go _)
        · rw [if_neg (by decide), if_pos (by decide)]
          exact zvRd ob_98 (m_isRealizer H) (by decide) (go _)
        · rw [if_neg (by decide), if_neg (by decide)]
          exact zvRd ob_98 (m_areUnlike H) (by decide) (go _)
    · rw [Bool.not_eq_true] at hy
      refine ⟨-2, fun I A t hC => zQy.mk 6 (by decide) ?_, fun I A t hM => zQy.mk 6 (by decide) ?_⟩
      · exact eX11_rowsAre _ _ _ (bX11_rowsAre_0 _ _ _ (zvO1 ob_0 (v_orderIn1 hC hs) (by decide) ⟨fun e => (zneq hy (j := 0) (by decide) e).elim, fun e => (zneq hy (j := 1) (by decide) e).elim, fun e => (zneq hy (j := 2) (by decide) e).elim, fun _ => zQk.id _ _ _ _⟩))
      · refine eX12_rowsAre _ _ _ (bX12_rowsAre_0 _ _ _ (zvRd ob_98 (m_ord1 hM hs) (by decide) ?_))
        rw [if_neg (by decide)]
        refine zcRd (m_inC (m := 2) _ (by decide) (by decide)) (by decide) ?_
        rw [zB_f hy]
        exact zQk.id _ _ _ _
  · refine ⟨-2, fun I A t hC => zQy.mk 6 (by decide) ?_, fun I A t hM => zQy.mk 6 (by decide) ?_⟩
    · exact eX11_rowsAre _ _ _ (bX11_rowsAre_0 _ _ _ (zvO0 ob_0 (v_orderIn0 hC hn) (by decide) (zQk.id _ _ _ _)))
    · refine eX12_rowsAre _ _ _ (bX12_rowsAre_0 _ _ _ (zvRd ob_98 (m_ord0 hM hn) (by decide) ?_))
      rw [if_pos rfl]
      exact zQk.id _ _ _ _
end ZQr
