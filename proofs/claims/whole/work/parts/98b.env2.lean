/-! ===== the classes, the texts, the statics at the entry ===== -/
theorem wt_1 {w : Cond} {i : Nat} (h0 : tables_1_1[i]? = some w) : w ∈ lw_tbl := List.mem_append_right _ (List.mem_append_left _ (List.mem_of_getElem? h0))
theorem wt_2 {w : Cond} {i : Nat} (h0 : tables_1_2[i]? = some w) : w ∈ lw_tbl := List.mem_append_right _ (List.mem_append_right _ (List.mem_append_left _ (List.mem_of_getElem? h0)))
theorem wt_3 {w : Cond} {i : Nat} (h0 : tables_1_3[i]? = some w) : w ∈ lw_tbl := List.mem_append_right _ (List.mem_append_right _ (List.mem_append_right _ (List.mem_append_left _ (List.mem_of_getElem? h0))))
theorem wt_4 {w : Cond} {i : Nat} (h0 : tables_1_4[i]? = some w) : w ∈ lw_tbl := List.mem_append_right _ (List.mem_append_right _ (List.mem_append_right _ (List.mem_append_right _ (List.mem_append_left _ (List.mem_of_getElem? h0)))))
theorem wt_5 {w : Cond} {i : Nat} (h0 : tables_1_5[i]? = some w) : w ∈ lw_tbl := List.mem_append_right _ (List.mem_append_right _ (List.mem_append_right _ (List.mem_append_right _ (List.mem_append_right _ (List.mem_append_left _ (List.mem_of_getElem? h0))))))
theorem wt_6 {w : Cond} {i : Nat} (h0 : tables_1_6[i]? = some w) : w ∈ lw_tbl := List.mem_append_right _ (List.mem_append_right _ (List.mem_append_right _ (List.mem_append_right _ (List.mem_append_right _ (List.mem_append_right _ (List.mem_append_left _ (List.mem_of_getElem? h0)))))))
theorem wt_7 {w : Cond} {i : Nat} (h0 : tables_1_7[i]? = some w) : w ∈ lw_tbl := List.mem_append_right _ (List.mem_append_right _ (List.mem_append_right _ (List.mem_append_right _ (List.mem_append_right _ (List.mem_append_right _ (List.mem_append_right _ (List.mem_of_getElem? h0)))))))
theorem w_cls {args : Array Value} {s : State} (hts : ∀ w ∈ zG, w.before args s = true) : ∃ D : va_G, ∀ (c : Nat) (q : vw_C), vwCl[c]? = some q → u_Kn s q.1 q.2.1 q.2.2 (D.1 c) (D.2 c) := by
  have key : ∀ c : Nat, ∃ (cC : ClassId) (iS : Nat → Nat), ∀ q : vw_C, vwCl[c]? = some q → u_Kn s q.1 q.2.1 q.2.2 cC iS := by
    intro c
    match c with
    | 0 =>
      obtain ⟨cC, iS, h⟩ := u_known hts in_X0 (hts _ g_185)
      exact ⟨cC, iS, fun q hq => by cases hq; exact h⟩
    | 1 =>
      obtain ⟨cC, iS, h⟩ := u_known hts in_X1 (hts _ g_226)
      exact ⟨cC, iS, fun q hq => by cases hq; exact h⟩
    | 2 =>
      obtain ⟨cC, iS, h⟩ := u_known hts in_X2 (hts _ g_255)
      exact ⟨cC, iS, fun q hq => by cases hq; exact h⟩
    | 3 =>
      obtain ⟨cC, iS, h⟩ := u_known hts in_X3 (hts _ g_293)
      exact ⟨cC, iS, fun q hq => by cases hq; exact h⟩
    | 4 =>
      obtain ⟨cC, iS, h⟩ := u_known hts in_X4 (hts _ g_242)
      exact ⟨cC, iS, fun q hq => by cases hq; exact h⟩
    | 5 =>
      obtain ⟨cC, iS, h⟩ := u_known hts in_X5 (hts _ g_131)
      exact ⟨cC, iS, fun q hq => by cases hq; exact h⟩
    | 6 =>
      obtain ⟨cC, iS, h⟩ := u_known hts in_X6 (hts _ g_164)
      exact ⟨cC, iS, fun q hq => by cases hq; exact h⟩
    | 7 =>
      obtain ⟨cC, iS, h⟩ := u_known hts in_X7 (hts _ g_201)
      exact ⟨cC, iS, fun q hq => by cases hq; exact h⟩
    | 8 =>
      obtain ⟨cC, iS, h⟩ := u_known hts in_X8 (hts _ g_137)
      exact ⟨cC, iS, fun q hq => by cases hq; exact h⟩
    | 9 =>
      obtain ⟨cC, iS, h⟩ := u_known hts in_X9 (hts _ g_265)
      exact ⟨cC, iS, fun q hq => by cases hq; exact h⟩
    | 10 =>
      obtain ⟨cC, iS, h⟩ := u_known hts in_X11 (hts _ g_122)
      exact ⟨cC, iS, fun q hq => by cases hq; exact h⟩
    | 11 =>
      obtain ⟨cC, iS, h⟩ := u_known hts in_X12 (hts _ g_1204)
      exact ⟨cC, iS, fun q hq => by cases hq; exact h⟩
    | n + 12 => exact ⟨0, fun _ => 0, fun q hq => by cases hq⟩
  exact ⟨(fun c => Classical.choose (key c), fun c => Classical.choose (Classical.choose_spec (key c))), fun c q hq => Classical.choose_spec (Classical.choose_spec (key c)) q hq⟩
theorem w_K {args : Array Value} {s : State} (hts : ∀ w ∈ zG, w.before args s = true) (ho : (Cond.arrayOver (.object "OrderGauge$Order")).before args s = true) : ∃ (D : va_G) (cI cO : ClassId), va_K D vwCl [(cI, .int), (cO, .object "OrderGauge$Order")] s := by
  obtain ⟨D, hD⟩ := w_cls hts
  obtain ⟨cI, kI, compI, a1, a2, a3⟩ := Cond.arrayClass_spec (hts _ g_149)
  obtain ⟨comp, cO, kO, b1, -, b3, b4, b5⟩ := Cond.arrayOver_spec ho
  refine ⟨D, cI, cO, hD, fun k q hq => ?_⟩
  match k, hq with
  | 0, hq =>
    cases hq
    exact ⟨fun N z => ⟨(fun k h => by cases h), kI, a2, compI, a3⟩, a1⟩
  | 1, hq =>
    cases hq
    exact ⟨fun N z => ⟨(fun k h => by cases h), kO, b3, comp, b4⟩, kO, comp, b3, b4, b1, b5⟩
  | n + 2, hq => cases hq
theorem w_eqs {args : Array Value} {s : State} {t u : Term} {a : Nat} (h : (Cond.eq t u).before args s = true) (ht : t.eval args s none [] s = some (.ref a)) : u.eval args s none [] s = some (.ref a) := by
  cases hv : u.eval args s none [] s with
  | none => simp [Cond.before, Cond.holds, Cond.value, hv, ht] at h
  | some w =>
    simp only [Cond.before, Cond.holds, Cond.value, hv, ht] at h
    cases w <;> simp_all
theorem w_txt {args : Array Value} {s : State} {adK : Nat → Nat} (hts : ∀ w ∈ lw_tbl, w.before args s = true) (hgv : (Jvm.Cond.and given_1 narrow_1).before args s = true) (hk : ∀ i : Nat, i < 8 → (ztm i).eval args s none [] s = some (.ref (adK i))) : ∀ q ∈ zsTx, vk_R q.1 q.2.1 q.2.2.1 (adK q.2.2.2) s := by
  have hs := flat_of_before _ hgv
  intro q hq
  simp only [zsTx, List.mem_cons, List.not_mem_nil, or_false] at hq
  rcases hq with rfl | rfl | rfl | rfl | rfl | rfl | rfl | rfl | rfl | rfl | rfl | rfl
  · exact vk_R.of (A := args) (hts _ (wt_2 (i := 51) rfl)) (hk 0 (by decide))
  · exact vk_R.of (A := args) (hts _ (wt_2 (i := 170) rfl)) (hk 1 (by decide))
  · exact vk_R.of (A := args) (hts _ (wt_5 (i := 120) rfl)) (hk 2 (by decide))
  · exact vk_R.of (A := args) (hts _ (wt_5 (i := 137) rfl)) (hk 3 (by decide))
  · exact vk_R.of (A := args) (hts _ (wt_6 (i := 65) rfl)) (w_eqs (hs (Cond.eq (Term.string "OrderGauge$Reader" 38) (Term.string "OrderGaugeModel" 182)) (by decide +kernel)) (hk 0 (by decide)))
  · exact vk_R.of (A := args) (hts _ (wt_6 (i := 115) rfl)) (w_eqs (hs (Cond.eq (Term.string "OrderGauge$Reader" 83) (Term.string "OrderGaugeModel" 191)) (by decide +kernel)) (hk 1 (by decide)))
  · exact vk_R.of (A := args) (hts _ (wt_7 (i := 212) rfl)) (w_eqs (hs (Cond.eq (Term.string "OrderGauge$Order" 113) (Term.string "OrderGaugeModel" 368)) (by decide +kernel)) (hk 2 (by decide)))
  · exact vk_R.of (A := args) (hts _ (wt_7 (i := 221) rfl)) (hk 4 (by decide))
  · exact vk_R.of (A := args) (hts _ (wt_7 (i := 222) rfl)) (hk 5 (by decide))
  · exact vk_R.of (A := args) (hts _ (wt_7 (i := 223) rfl)) (hk 6 (by decide))
  · exact vk_R.of (A := args) (hts _ (wt_7 (i := 224) rfl)) (hk 7 (by decide))
  · exact vk_R.of (A := args) (hts _ (wt_7 (i := 225) rfl)) (w_eqs (hs (Cond.eq (Term.string "OrderGauge$Order" 134) (Term.string "OrderGaugeModel" 385)) (by decide +kernel)) (hk 3 (by decide)))
theorem w_nest {args : Array Value} {s : State} (hts : ∀ w ∈ lw_tbl, w.before args s = true) : ∀ q ∈ zNest, va_Nw (.methodLinkNest q.1 q.2.1 q.2.2 "OrderGauge") s := by
  intro q hq
  simp only [zNest, List.mem_cons, List.not_mem_nil, or_false] at hq
  rcases hq with rfl | rfl | rfl | rfl | rfl | rfl | rfl | rfl | rfl
  · exact va_Nw.of rfl (hts _ (wt_1 (i := 32) rfl))
  · exact va_Nw.of rfl (hts _ (wt_1 (i := 38) rfl))
  · exact va_Nw.of rfl (hts _ (wt_1 (i := 70) rfl))
  · exact va_Nw.of rfl (hts _ (wt_1 (i := 127) rfl))
  · exact va_Nw.of rfl (hts _ (wt_1 (i := 143) rfl))
  · exact va_Nw.of rfl (hts _ (wt_1 (i := 156) rfl))
  · exact va_Nw.of rfl (hts _ (wt_1 (i := 166) rfl))
  · exact va_Nw.of rfl (hts _ (wt_1 (i := 194) rfl))
  · exact va_Nw.of rfl (hts _ (wt_5 (i := 90) rfl))
theorem w_st {args : Array Value} {s : State} {A : Nat → Prop} (hts : ∀ w ∈ lw_tbl, w.before args s = true) (hgv : (Jvm.Cond.and given_1 narrow_1).before args s = true) (hA : ∀ a : Nat, a < s.heap.size → ¬ A a) : va_Z "java/lang/String" "COMPACT_STRINGS" "Z" (.int 1) A s s.heap :=
  va_Zof (args := args) (hts _ (wt_2 (i := 65) rfl)) (hts _ (wt_1 (i := 14) rfl)) (va_eqi ((flat_of_before _ hgv) _ (by decide +kernel))) hA
theorem w_fm {args : Array Value} {s : State} {A : Nat → Prop} (hts : ∀ w ∈ lw_tbl, w.before args s = true) (hgv : (Jvm.Cond.and given_1 narrow_1).before args s = true) (hA : ∀ a : Nat, a < s.heap.size → ¬ A a) : ∃ r : Nat, va_Z "jdk/internal/util/Preconditions" "SIOOBE_FORMATTER" "Ljava/util/function/BiFunction;" .null A s s.heap ∨ va_Z "jdk/internal/util/Preconditions" "SIOOBE_FORMATTER" "Ljava/util/function/BiFunction;" (.ref r) A s s.heap := by
  have h0 : (Cond.isRef (.static "jdk/internal/util/Preconditions" "SIOOBE_FORMATTER" "Ljava/util/function/BiFunction;")).before args s = true := (flat_of_before _ hgv) _ (by decide +kernel)
  obtain ⟨v, hv, hr⟩ := Cond.isRef_spec h0
  have hz := va_Zof (A := A) (hts _ (wt_2 (i := 81) rfl)) (hts _ (wt_1 (i := 16) rfl)) hv hA
  cases v with
  | null => exact ⟨0, Or.inl hz⟩
  | ref a => exact ⟨a, Or.inr hz⟩
  | _ => cases hr
theorem w_Scong {N : Nat} {len : List Nat} {byt : List (List Int32)} {a1 v1 a2 v2 : Nat → Nat} {A : Nat → Prop} {U : State} {H : Heap} (h : vk_S N len byt a1 v1 A U H) (ha : ∀ i : Nat, i < N → a2 i = a1 i) (hv : ∀ i : Nat, i < N → v2 i = v1 i) : vk_S N len byt a2 v2 A U H :=
  ⟨fun i hi => by rw [ha i hi, hv i hi]; exact h.1 i hi, fun i j hi hj e => h.2 i j hi hj (by rw [← ha i hi, ← ha j hj]; exact e)⟩
/-- all that stands behind every state, at the entry -/
theorem w_env {args : Array Value} {s : State} (l : Launch) {b L : Nat} {xs : Nat → Int32} (hts : ∀ w ∈ lw_tbl, w.before args s = true) (hgv : (Jvm.Cond.and given_1 narrow_1).before args s = true) (hX : va_X b L xs s s.heap) (hb : b < s.heap.size) (hL : L < 2 ^ 31) : ∃ X : zX, zl X = l ∧ zb X = s.heap.size ∧ zsa X 0 = b ∧ zsL X = L ∧ zEX X s := by
  have hA : ∀ a : Nat, a < s.heap.size → ¬ (s.heap.size ≤ a) := fun a h => by omega
  have hG : ∀ w ∈ zG, w.before args s = true := fun w hw => hts w (zG_tbl hw)
  have hAO := hts _ (wt_1 (i := 30) rfl)
  obtain ⟨D, cI, cO, hK⟩ := w_K hG hAO
  obtain ⟨adK, adV, hS, hk⟩ := w_str (A := fun a => s.heap.size ≤ a) hgv hA
  obtain ⟨r, hr⟩ := w_fm (A := fun a => s.heap.size ≤ a) hts hgv hA
  refine ⟨(l, D, s.heap.size, cI, cO, fun i => if i = 0 then b else if i = 99 then r else if i < 99 then adK (i - 1) else adV (i - 100), L, xs), rfl, rfl, rfl, rfl, ?_⟩
  have hT := w_txt hts hgv hk
  have hK0 : ∀ i : Nat, i < 8 → (if 1 + i = 0 then b else if 1 + i = 99 then r else if 1 + i < 99 then adK (1 + i - 1) else adV (1 + i - 100)) = adK i := fun i hi => by
    rw [if_neg (by omega), if_neg (by omega), if_pos (by omega)]
    congr 1
    omega
  have hV0 : ∀ i : Nat, i < 8 → (if 100 + i = 0 then b else if 100 + i = 99 then r else if 100 + i < 99 then adK (100 + i - 1) else adV (100 + i - 100)) = adV i := fun i hi => by
    rw [if_neg (by omega), if_neg (by omega), if_neg (by omega)]
    congr 1
    omega
  refine ⟨hK, va_AO.of hAO, w_nest hts, ?_, fun q hq => ?_, w_st hts hgv hA, hr, hX, hb, hL⟩
  · exact w_Scong hS hK0 hV0
  · have h8 : q.2.2.2 < 8 := by
      revert q
      decide
    have h := hT q hq
    show vk_R q.1 q.2.1 q.2.2.1 (if 1 + q.2.2.2 = 0 then b else if 1 + q.2.2.2 = 99 then r else if 1 + q.2.2.2 < 99 then adK (1 + q.2.2.2 - 1) else adV (1 + q.2.2.2 - 100)) s
    rw [hK0 _ h8]
    exact h
