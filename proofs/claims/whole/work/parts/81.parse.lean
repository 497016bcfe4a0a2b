/-! ===== told: what is read; the class reads it ===== -/
abbrev zOc : Type := (Nat × Nat) ⊕ (zTok × zSl)
def zsgn (T : zBy) (c : Nat) (tk : zTok) : Bool := decide (tk.1 = 3 ∧ T.2 tk.2.1 = c)
def zkw : Nat → List Nat
  | 0 => [111, 114, 100, 101, 114]
  | _ => [114, 111, 119]
def zisw (T : zBy) (i : Nat) (tk : zTok) : Bool := decide (tk.1 = 1) && (decide (tk.2.2 - tk.2.1 = (zkw i).length) && zall (zkw i).length (fun k => decide (T.2 (tk.2.1 + k) = (zkw i).getD k 0)))
def zthg (T : zBy) (n : Nat) (tk : zTok) : Nat ⊕ Nat := if tk.1 = 2 then (if zva T tk < n then .inr (zva T tk) else .inl 2) else .inl 1
def zchn (T : zBy) : Nat → Nat → zTok → zSl → zOc
  | 0, _, tk, x => .inr (tk, x)
  | k + 1, a, tk, x => if zsgn T 60 tk = true then
      (match zthg T x.1 (znx T tk) with
      | .inl f => .inl (f, (znx T tk).2.1)
      | .inr b => if a = b ∨ zlt x.2.1 b a = true then .inl (3, (znx T tk).2.1) else zchn T k b (znx T (znx T tk)) (x.1, zln x.2.1 a b, x.2.2))
    else .inr (tk, x)
def zcli (T : zBy) (tk : zTok) (x : zSl) : zOc := match zthg T x.1 tk with
  | .inl f => .inl (f, tk.2.1)
  | .inr a => if zsgn T 60 (znx T tk) = true then zchn T 401 a (znx T tk) x else .inl (1, (znx T tk).2.1)
def zts (T : zBy) : Nat → Nat → zTok → zSl → zOc
  | 0, _, tk, x => .inr (tk, x)
  | k + 1, c, tk, x => if zsgn T c tk = true then
      (match zcli T (znx T tk) x with
      | .inl f => .inl f
      | .inr (tk', x') => zts T k 44 tk' x')
    else .inr (tk, x)
def zsc (T : zBy) (tk : zTok) (x : zSl) : zOc := if zsgn T 59 tk = true then .inr (znx T tk, x) else .inl (1, tk.2.1)
def zrk (T : zBy) (n s l : Nat) : Nat → Bool × Nat
  | 0 => (decide (l = n), 0)
  | i + 1 => ((zrk T n s l i).1 && (decide (T.2 (s + i) - 48 < n) && !(zrk T n s l i).2.testBit (T.2 (s + i) - 48)), (zrk T n s l i).2 ||| 2 ^ (T.2 (s + i) - 48))
def zrok (T : zBy) (n : Nat) (tk : zTok) : Bool := (zrk T n tk.2.1 (tk.2.2 - tk.2.1) (tk.2.2 - tk.2.1)).1
def zadd (T : zBy) (x : zSl) (s : Nat) : zSl := (x.1, x.2.1, x.2.2.1 + 1, fun r i => if r = x.2.2.1 then (if i < x.1 then T.2 (s + i) - 48 else 0) else x.2.2.2 r i)
def zrs (T : zBy) : Nat → zTok → zSl → zOc
  | 0, tk, x => .inr (tk, x)
  | k + 1, tk, x => if tk.1 = 0 then .inr (tk, x) else if zisw T 1 tk = true then
      (if x.2.2.1 < 6 then
        (if (znx T tk).1 = 2 then
          (if zrok T x.1 (znx T tk) = true then
            (match zsc T (znx T (znx T tk)) (zadd T x (znx T tk).2.1) with
            | .inl f => .inl f
            | .inr (tk', x') => zrs T k tk' x')
          else .inl (4, (znx T tk).2.1))
        else .inl (1, (znx T tk).2.1))
      else .inl (5, tk.2.1))
    else .inl (1, tk.2.1)
def zhd (T : zBy) : zOc := if zisw T 0 (zLex T 0) = true then
    (if (znx T (zLex T 0)).1 = 2 then
      (if 1 ≤ zva T (znx T (zLex T 0)) ∧ zva T (znx T (zLex T 0)) ≤ 8 then .inr (znx T (znx T (zLex T 0)), zFe (zva T (znx T (zLex T 0)))) else .inl (2, (znx T (zLex T 0)).2.1))
    else .inl (1, (znx T (zLex T 0)).2.1))
  else .inl (1, (zLex T 0).2.1)
def zbd (o : zOc) (g : zTok → zSl → zOc) : zOc := match o with
  | .inl f => .inl f
  | .inr (tk, x) => g tk x
def zParse (T : zBy) : zOc := zbd (zbd (zbd (zhd T) (zts T 401 58)) (zsc T)) (zrs T 401)
theorem znx_v {T : zBy} {tk : zTok} (h : zTV T tk) : zTV T (znx T tk) ∧ tk.2.2 ≤ (znx T tk).2.1 := zLex_v h.2.1
theorem zva_le (T : zBy) (tk : zTok) : zva T tk ≤ 1000 := by
  unfold zva
  split
  · exact zvl_le _ _ _
  · decide
theorem zthg_r {T : zBy} {n b : Nat} {tk : zTok} (h : zthg T n tk = .inr b) : b < n := by
  unfold zthg at h
  split at h
  · split at h
    · cases h
      assumption
    · cases h
  · cases h
theorem zchn_r {T : zBy} : ∀ k a tk x tk' x', zTV T tk → zchn T k a tk x = .inr (tk', x') → zTV T tk' ∧ tk.2.1 ≤ tk'.2.1
  | 0, a, tk, x, tk', x', hv, h => by
    cases h
    exact ⟨hv, Nat.le_refl _⟩
  | k + 1, a, tk, x, tk', x', hv, h => by
    unfold zchn at h
    split at h
    · have h1 := znx_v hv
      have h2 := znx_v h1.1
      split at h
      · cases h
      · split at h
        · cases h
        · have := zchn_r k _ _ _ _ _ h2.1 h
          refine ⟨this.1, ?_⟩
          have q1 := hv.1
          have q2 := h1.1.1
          have q3 := this.2
          omega
    · cases h
      exact ⟨hv, Nat.le_refl _⟩
theorem zcli_r {T : zBy} {tk tk' : zTok} {x x' : zSl} (hv : zTV T tk) (h : zcli T tk x = .inr (tk', x')) : zTV T tk' ∧ tk.2.2 ≤ tk'.2.1 := by
  have h1 := znx_v hv
  unfold zcli at h
  split at h
  · cases h
  · split at h
    · have := zchn_r _ _ _ _ _ _ h1.1 h
      exact ⟨this.1, Nat.le_trans h1.2 this.2⟩
    · cases h
theorem zsgn_k {T : zBy} {c : Nat} {tk : zTok} (hv : zTV T tk) (h : zsgn T c tk = true) : tk.2.1 < tk.2.2 ∧ tk.2.2 ≤ T.1 := by
  have h1 := of_decide_eq_true h
  exact ⟨hv.2.2.1 (by rw [h1.1]; decide), hv.2.1⟩
/- the class -/
def zFrm (I0 A0 I A : zF2) : Prop := ∀ p, (p < 17 ∨ 22 ≤ p) → A p = A0 p ∧ (p ≠ 79 → I p = I0 p)
def zRl (I0 A0 : zF2) (T : zBy) (tk : zTok) (I A : zF2) : Prop := zTV T tk ∧ zTp I A 75 76 400 T ∧ zCt tk I ∧ zFrm I0 A0 I A ∧ I 79 4 = 0 ∧ I 79 5 = -1
def zRc (I0 A0 : zF2) (T : zBy) (tk : zTok) (x : zSl) (I A : zF2) : Prop := zRl I0 A0 T tk I A ∧ zCS I A 17 x
def zBc (I0 A0 : zF2) (kp : Nat × Nat) (I A : zF2) : Prop := zFrm I0 A0 I A ∧ I 79 4 = nI kp.1 ∧ I 79 5 = nI kp.2
def zPq (I0 A0 : zF2) (T : zBy) (t : zW) (o : zOc) : Option Value → zW → Prop := fun v w1 => match o with
  | .inl kp => v = some (.int 0) ∧ ∃ I' A', w1 = zWd I' A' t ∧ zBc I0 A0 kp I' A'
  | .inr (tk, x) => v = some (.int 1) ∧ ∃ I' A', w1 = zWd I' A' t ∧ zRc I0 A0 T tk x I' A'
theorem zF9.cs {I I' A : zF2} {x : zSl} (h : zF9 I I') (H : zCS I A 17 x) : zCS I' A 17 x := H.same (fun r hr => ⟨rfl, h.1 _ (by omega)⟩)
theorem zF9.fq {I0 A0 I I' A : zF2} (h : zF9 I I') (H : zFrm I0 A0 I A) : zFrm I0 A0 I' A := fun p hp => ⟨(H p hp).1, fun h9 => (h.1 p h9).trans ((H p hp).2 h9)⟩
theorem zOn.fq {I0 A0 I A I' A' : zF2} (h : zOn 17 I A I' A') (H : zFrm I0 A0 I A) : zFrm I0 A0 I' A' := fun p hp => ⟨(h p (by omega)).1.trans (H p hp).1, fun h9 => (h p (by omega)).2.trans ((H p hp).2 h9)⟩
theorem zOn.rl {I0 A0 I A I' A' : zF2} {T : zBy} {tk : zTok} (h : zOn 17 I A I' A') (H : zRl I0 A0 T tk I A) : zRl I0 A0 T tk I' A' := by
  obtain ⟨h1, ⟨a1, a2, a3⟩, ⟨b1, b2, b3⟩, h4, h5, h6⟩ := H
  have e9 := (h 79 (by decide)).2
  exact ⟨h1, ⟨a1, by rw [(h 75 (by decide)).2]; exact a2, fun i hi => by rw [(h 76 (by decide)).1]; exact a3 i hi⟩, ⟨by rw [e9]; exact b1, by rw [e9]; exact b2, by rw [e9]; exact b3⟩, h.fq h4, by rw [e9]; exact h5, by rw [e9]; exact h6⟩
section ZPc
variable {X : zX} {I A I0 A0 : zF2} {t : zW} {T : zBy} {tk : zTok} {x : zSl} {d : Nat}
theorem k_adv (h : zRl I0 A0 T tk I A) (hd : 2 < d) {K : zW → Prop} (k : ∀ I', zRl I0 A0 T (znx T tk) I' A → zF9 I I' → K (zWd I' A t)) : zIs (zWd I A t) 79 7 ∧ zCallV X d MX7_advance [.ref 79] (zWd I A t) K := by
  obtain ⟨h1, h2, h3, h4, h5, h6⟩ := h
  refine zvV ob_79 (v_advance h2 h3.2.2 h1.2.1) hd ?_
  rintro w1 ⟨I', rfl, hc, hf⟩
  exact k I' ⟨(znx_v h1).1, hf.tp h2, hc, hf.fq h4, hf.2.1.trans h5, hf.2.2.trans h6⟩ hf
theorem k_advC (h : zRc I0 A0 T tk x I A) (hd : 2 < d) {K : zW → Prop} (k : ∀ I', zRc I0 A0 T (znx T tk) x I' A → K (zWd I' A t)) : zIs (zWd I A t) 79 7 ∧ zCallV X d MX7_advance [.ref 79] (zWd I A t) K := k_adv h.1 hd (fun I' h' hf => k I' ⟨h', hf.cs h.2⟩)
theorem v_isSign (h : zRl I0 A0 T tk I A) {c : Nat} (hc : c < 256) : zRd X 1 MX7_isSign [.ref 79, .int (nI c)] (zWd I A t) (zB (zsgn T c tk)) := by
  obtain ⟨h1, h2, h3, -⟩ := h
  have h4 := h2.1
  have hk := h1.2.2.2.2
  refine eX7_isSign _ _ (bX7_isSign_0 _ _ ⟨_, fi_79_1.rd, ?_⟩)
  rw [h3.1]
  show if nI tk.1 = nI 3 then _ else _
  rw [zi_eq (by omega) (by decide)]
  unfold zsgn
  by_cases c3 : tk.1 = 3
  · rw [if_pos c3]
    have hlt := h1.2.2.1 (by omega)
    have hlt2 := h1.2.1
    have hb := (h2.2.2 tk.2.1 (by omega)).2
    refine ⟨_, fr_79_0.rd, _, fi_79_2.rd, ?_⟩
    rw [h3.2.1]
    refine zvRd ob_75 (v_tapeN h2 (by omega)) (by decide) ?_
    rw [zi_eq (by omega) (by omega)]
    by_cases cc : T.2 tk.2.1 = c
    · rw [if_pos cc, decide_eq_true ⟨c3, cc⟩]
      exact ⟨rfl, rfl⟩
    · rw [if_neg cc, decide_eq_false (fun z => cc z.2)]
      exact ⟨rfl, rfl⟩
  · rw [if_neg c3, decide_eq_false (fun z => c3 z.1)]
    exact ⟨rfl, rfl⟩
theorem zkw_ok : ∀ i, i < 2 → (zkw i).length = zsLen.getD i 0 ∧ ∀ k, k < (zkw i).length → (zsByt.getD i []).getD k 0 = nI ((zkw i).getD k 0) ∧ (zkw i).getD k 0 < 256 := by decide
theorem v_isWord (h : zRl I0 A0 T tk I A) {i : Nat} (hi : i < 2) : zRd X 6 MX7_isWord [.ref 79, .ref (zTx i)] (zWd I A t) (zB (zisw T i tk)) := by
  obtain ⟨h1, h2, h3, -⟩ := h
  have h4 := h2.1
  have hk := h1.2.2.2.2
  obtain ⟨w1, w2⟩ := zkw_ok i hi
  have w3 := zsLen_lt i (by omega)
  have hs1 := h1.1
  have hs2 := h1.2.1
  refine eX7_isWord _ _ (bX7_isWord_0 _ _ ⟨_, fi_79_1.rd, ?_⟩)
  rw [h3.1]
  show if nI tk.1 = nI 1 then _ else _
  rw [zi_eq (by omega) (by decide)]
  unfold zisw
  by_cases c1 : tk.1 = 1
  · rw [if_pos c1, decide_eq_true c1, Bool.true_and]
    refine ⟨_, fi_79_3.rd, _, fi_79_2.rd, by decide, _, zTL_tx (by omega), ?_⟩
    rw [h3.2.2, h3.2.1, pk_sub hs1, ← w1, zi_eq (by omega) (by omega)]
    by_cases c2 : tk.2.2 - tk.2.1 = (zkw i).length
    · rw [if_pos c2, decide_eq_true c2, Bool.true_and]
      refine zloopA (R := fun k b => zRn X 6 0 0 MX7_isWord 28 [some (.ref 79), some (.ref (zTx i)), some (.int (nI k))] [] (zWd I A t) (fun v w1 => v = some (.int (zB b)) ∧ w1 = zWd I A t)) ?_ (fun k hk2 b e1 e2 => ?_)
      · refine bX7_isWord_28 _ _ _ ⟨by decide, _, zTL_tx (by omega), ?_⟩
        rw [w1, if_pos (Int32.le_refl _)]
        exact ⟨rfl, rfl⟩
      · refine bX7_isWord_28 _ _ _ ⟨by decide, _, zTL_tx (by omega), ?_⟩
        rw [zi_le (by omega) (by omega), if_neg (by omega)]
        refine ⟨_, fr_79_0.rd, _, fi_79_2.rd, ?_⟩
        rw [h3.2.1, nI_add]
        have hb := (h2.2.2 (tk.2.1 + k) (by omega)).2
        have e : (nI k).toNatClampNeg = k := nI_clamp (by omega)
        have b1 := w2 k hk2
        refine zvRd ob_75 (v_tapeN h2 (by omega)) (by decide) ⟨by decide, _, zTC_tx (by omega) ?_, ?_⟩
        · unfold vp_in
          rw [e]
          rintro (q | q)
          · exact nI_pos (by omega) q
          · omega
        · rw [e, b1.1, zi_eq (by omega) (by omega)]
          by_cases cc : T.2 (tk.2.1 + k) = (zkw i).getD k 0
          · rw [if_pos cc, nI_1]
            exact e1 (decide_eq_true cc)
          · rw [if_neg cc, e2 (decide_eq_false cc)]
            exact ⟨rfl, rfl⟩
    · rw [if_neg c2, decide_eq_false c2, Bool.false_and]
      exact ⟨rfl, rfl⟩
  · rw [if_neg c1, decide_eq_false c1, Bool.false_and]
    exact ⟨rfl, rfl⟩
theorem v_refuse (h : zRl I0 A0 T tk I A) (k : Nat) : zEv X 0 0 0 MX7_refuse [.ref 79, .int (nI k)] (zWd I A t) (fun v w1 => v = some (.int 0) ∧ ∃ I', w1 = zWd I' A t ∧ zBc I0 A0 (k, tk.2.1) I' A) := by
  obtain ⟨h1, h2, h3, h4, h5, h6⟩ := h
  refine eX7_refuse _ _ (bX7_refuse_0 _ _ ⟨_, fi_79_4.wr, _, fi_79_2.rd, _, fi_79_5.wr, rfl, _, rfl, fun p hp => ⟨(h4 p hp).1, fun h9 => ?_⟩, ?_, ?_⟩)
  · rw [zup_ne h9, zup_ne h9]
    exact (h4 p hp).2 h9
  · exact (zI9_ne _ _ (by decide)).trans (zI9_eq I _ _)
  · refine (zI9_eq _ _ _).trans ?_
    exact (zI9_ne I _ (by decide)).trans h3.2.1
theorem v_number (h : zRl I0 A0 T tk I A) (h2 : tk.1 = 2) : zRd X 1 MX7_number [.ref 79] (zWd I A t) (nI (zva T tk)) := by
  obtain ⟨h1, ht, h3, -⟩ := h
  have h4 := ht.1
  have hs1 := h1.1
  have hs2 := h1.2.1
  have hdg := h1.2.2.2.1 h2
  unfold zva
  rw [if_pos h2]
  refine eX7_number _ (bX7_number_0 _ ⟨_, fi_79_2.rd, ?_⟩)
  rw [h3.2.1]
  have key : ∀ j, j ≤ tk.2.2 - tk.2.1 → zRn X 1 0 0 MX7_number 7 [some (.ref 79), some (.int (nI (zvl T tk.2.1 j))), some (.int (nI (tk.2.1 + j)))] [] (zWd I A t) (fun v w1 => v = some (.int (nI (zvl T tk.2.1 (tk.2.2 - tk.2.1)))) ∧ w1 = zWd I A t) := by
    refine zdown ?_ ?_
    · refine bX7_number_7 _ _ _ ⟨_, fi_79_3.rd, ?_⟩
      rw [h3.2.2, show tk.2.1 + (tk.2.2 - tk.2.1) = tk.2.2 by omega, if_pos (Int32.le_refl _)]
      exact ⟨rfl, rfl⟩
    · intro j hj ih
      have hd := hdg (tk.2.1 + j) (by omega) (by omega)
      have hv := zvl_le T tk.2.1 j
      refine bX7_number_7 _ _ _ ⟨_, fi_79_3.rd, ?_⟩
      rw [h3.2.2, zi_le (by omega) (by omega), if_neg (by omega)]
      refine ⟨_, fr_79_0.rd, zvRd ob_75 (v_tapeN ht (by omega)) (by decide) ⟨by decide, ?_⟩⟩
      have e1 : nI (zvl T tk.2.1 j) * 10 + nI (T.2 (tk.2.1 + j)) - 48 = nI (10 * zvl T tk.2.1 j + T.2 (tk.2.1 + j) - 48) := by
        show nI _ * nI 10 + nI _ - nI 48 = _
        rw [pk_mul, nI_add, pk_sub (by omega), Nat.mul_comm]
      have e3 : (if 1000 < nI (10 * zvl T tk.2.1 j + T.2 (tk.2.1 + j) - 48) then 1000 else nI (10 * zvl T tk.2.1 j + T.2 (tk.2.1 + j) - 48)) = nI (zvl T tk.2.1 (j + 1)) := by
        show (if nI 1000 < _ then nI 1000 else _) = nI (if _ then _ else _)
        rw [zi_lt (by decide) (by omega)]
        by_cases q : 1000 < 10 * zvl T tk.2.1 j + T.2 (tk.2.1 + j) - 48
        · rw [if_pos q, if_pos q]
        · rw [if_neg q, if_neg q]
      rw [e1, e3, nI_1]
      exact ih
  exact key 0 (Nat.zero_le _)
theorem v_thing (h : zRc I0 A0 T tk x I A) : zEv X 2 0 0 MX7_thingHere [.ref 79, .ref 17] (zWd I A t) (fun v w1 => match zthg T x.1 tk with
    | .inl k => v = some (.int (-1)) ∧ ∃ I', w1 = zWd I' A t ∧ zBc I0 A0 (k, tk.2.1) I' A
    | .inr b => v = some (.int (nI b)) ∧ w1 = zWd I A t) := by
  have hk := h.1.1.2.2.2.2
  have h3 := h.1.2.2.1
  have hv := zva_le T tk
  refine eX7_thingHere _ _ (bX7_thingHere_0 _ _ ⟨_, fi_79_1.rd, ?_⟩)
  rw [h3.1]
  show if nI tk.1 = nI 2 then _ else _
  rw [zi_eq (by omega) (by decide)]
  unfold zthg
  by_cases c : tk.1 = 2
  · rw [if_pos c, if_pos c]
    refine zvRd ob_79 (v_number h.1 c) (by decide) (zvRd h.2.1.1.ob (v_hasN h.2.1 (by omega)) (by decide) ?_)
    rw [zB_ifP]
    by_cases c2 : zva T tk < x.1
    · rw [if_pos c2, if_pos c2]
      exact ⟨rfl, rfl⟩
    · rw [if_neg c2, if_neg c2]
      refine zvI1 ob_79 (v_refuse h.1 2) (by decide) ?_
      rintro w1 ⟨I', rfl, hb⟩
      exact ⟨rfl, I', rfl, hb⟩
  · rw [if_neg c, if_neg c]
    refine zvI1 ob_79 (v_refuse h.1 1) (by decide) ?_
    rintro w1 ⟨I', rfl, hb⟩
    exact ⟨rfl, I', rfl, hb⟩
end ZPc
