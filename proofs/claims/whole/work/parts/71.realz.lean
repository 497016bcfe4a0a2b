/-! ===== realizes ===== -/
theorem zsl_po {F : Nat → Nat → zSR} {tr : Nat} {U : Nat → Nat → Nat} {P : (Nat → Nat → Nat) → Prop} (hU : P U) (hF : ∀ p c, P (F p c).2.2) : ∀ j p c, P (zsl F tr U j p c).2.2
  | 0, _, _ => hU
  | j + 1, p, c => by
    rw [zsl_s]
    split
    · exact hU
    · split
      · exact zsl_po hU hF j _ _
      · exact hF p _
theorem zSe_po {n t tr : Nat} : ∀ (L : List (Nat × Nat)) (g c : Nat) (U : Nat → Nat → Nat), (∀ a b, (a, b) ∈ L → a < n ∧ b < n ∧ a ≠ b) → (∀ p, zPo n (U p)) → ∀ p, zPo n ((zSe t tr L g c U).2.2 p)
  | [], _, _, U, _, hU => hU
  | (a, b) :: L, g, c, U, hL, hU => by
    rw [zSe_c]
    refine zsl_po (P := fun U => ∀ p, zPo n (U p)) hU (fun p c => ?_) _ _ _
    show ∀ p', zPo n ((if zlt (U p) a b = true then ((0, c, U) : zSR) else zSe t tr L (max g (p + 1)) c (va_up U p (zln (U p) b a))).2.2 p')
    obtain ⟨ha, hb, hab⟩ := hL a b List.mem_cons_self
    by_cases z : zlt (U p) a b = true
    · rw [if_pos z]
      exact hU
    · rw [if_neg z]
      refine zSe_po L _ _ _ (fun a' b' h => hL a' b' (List.mem_cons_of_mem _ h)) (fun p' => ?_)
      by_cases e : p' = p
      · rw [e, zup_eq]
        exact zln_po (hU p) hb ha (fun q => hab q.symm) (by simpa using z)
      · rw [zup_ne e]
        exact hU p'
def zRe (x : zSl) (t4 : Nat) (U : Nat → Nat → Nat) : zSl := (x.1, x.2.1, t4, fun p i => if p < t4 ∧ i < x.1 then zgp x.1 (U p) i else 0)
theorem zVl_Re {x : zSl} {t4 : Nat} {U : Nat → Nat → Nat} (hx : zVl x) (h0 : 0 < x.1) (ht : t4 ≤ 4) (hU : ∀ p, zPo x.1 (U p)) : zVl (zRe x t4 U) := by
  refine ⟨hx.1, ⟨by show t4 ≤ 6; omega, fun r i hr hi => ?_, fun r i j hr hi hj => ?_, fun r i hri => ?_⟩, fun z => by have z : x.1 = 0 := z; omega⟩
  · have hr : r < t4 := hr
    have hi : i < x.1 := hi
    show (if r < t4 ∧ i < x.1 then zgp x.1 (U r) i else 0) < x.1
    rw [if_pos ⟨hr, hi⟩]
    exact zgp_ok (hU r) (fun _ _ q => q) i hi
  · have hr : r < t4 := hr
    have hi : i < x.1 := hi
    have hj : j < x.1 := hj
    show (if r < t4 ∧ i < x.1 then zgp x.1 (U r) i else 0) = (if r < t4 ∧ j < x.1 then zgp x.1 (U r) j else 0) → i = j
    rw [if_pos ⟨hr, hi⟩, if_pos ⟨hr, hj⟩]
    exact zgp_inj (fun i hi => zgp_ok (hU r) (fun _ _ q => q) i hi) i j hi hj
  · have hri : t4 ≤ r ∨ x.1 ≤ i := hri
    show (if r < t4 ∧ i < x.1 then zgp x.1 (U r) i else 0) = 0
    rw [if_neg (by omega)]
def zlaT (n : Nat) (v : Nat → Nat) (lf : Nat) : Nat → Nat := zit (fun x l => if lf.testBit x = true then l ||| zov n v x else l) 0
theorem zlaT_s (n : Nat) (v : Nat → Nat) (lf k : Nat) : zlaT n v lf (k + 1) = if lf.testBit k = true then zlaT n v lf k ||| zov n v k else zlaT n v lf k := rfl
theorem zlaT_bit {n : Nat} {v : Nat → Nat} (h : zPo n v) (lf j : Nat) : ∀ k, (zlaT n v lf k).testBit j = true ↔ ∃ x, x < k ∧ lf.testBit x = true ∧ zlt v x j = true
  | 0 => by
    show (0 : Nat).testBit j = true ↔ _
    simp
  | k + 1 => by
    have ih := zlaT_bit h lf j k
    rw [zlaT_s]
    by_cases c : lf.testBit k = true
    · rw [if_pos c, Nat.testBit_or, Bool.or_eq_true, ih, zov_bit h]
      constructor
      · rintro (⟨x, h1, h2, h3⟩ | q)
        · exact ⟨x, by omega, h2, h3⟩
        · exact ⟨k, by omega, c, q⟩
      · rintro ⟨x, h1, h2, h3⟩
        by_cases e : x = k
        · subst e
          exact Or.inr h3
        · exact Or.inl ⟨x, by omega, h2, h3⟩
    · rw [if_neg c, ih]
      constructor
      · rintro ⟨x, h1, h2, h3⟩
        exact ⟨x, by omega, h2, h3⟩
      · rintro ⟨x, h1, h2, h3⟩
        by_cases e : x = k
        · subst e
          exact absurd h2 c
        · exact ⟨x, by omega, h2, h3⟩
theorem zlaT_lt {n : Nat} {v : Nat → Nat} (lf : Nat) : ∀ k, zlaT n v lf k < 2 ^ n
  | 0 => Nat.two_pow_pos n
  | k + 1 => by
    rw [zlaT_s]
    split
    · exact Nat.or_lt_two_pow (zlaT_lt lf k) (zov_lt n v k)
    · exact zlaT_lt lf k
/-- what is left behind i things of the first line -/
def zlf_ (n : Nat) (v : Nat → Nat) (i : Nat) : Nat := zdf (2 ^ n - 1) (zgs n v i)
theorem zlf_bit (n : Nat) (v : Nat → Nat) (i a : Nat) : (zlf_ n v i).testBit a = (decide (a < n) && !(zgs n v i).testBit a) := by
  unfold zlf_
  rw [zdf_bit, Nat.testBit_two_pow_sub_one]
theorem zfirst {n : Nat} {v : Nat → Nat} (h : zPo n v) {i a : Nat} (ha : a < n) : (zdf (zlf_ n v i) (zlaT n v (zlf_ n v i) n)).testBit a = (!(zgs n v i).testBit a && decide (zdf (v a) (zgs n v i) = 0)) := by
  rw [zdf_bit, zlf_bit, decide_eq_true ha, Bool.true_and]
  congr 1
  rw [Bool.eq_iff_iff, Bool.not_eq_true', decide_eq_true_eq, zdf0]
  constructor
  · intro q x hx
    have hxn := (h.lt (a := x) (b := a) hx).1
    cases hb : (zgs n v i).testBit x
    · have : (zlaT n v (zlf_ n v i) n).testBit a = true := (zlaT_bit h _ a n).mpr ⟨x, hxn, by rw [zlf_bit, decide_eq_true hxn, hb]; rfl, hx⟩
      rw [q] at this
      cases this
    · rfl
  · intro q
    cases hb : (zlaT n v (zlf_ n v i) n).testBit a
    · rfl
    · obtain ⟨x, h1, h2, h3⟩ := (zlaT_bit h _ a n).mp hb
      have := q x h3
      rw [zlf_bit, this] at h2
      simp at h2
section ZR1
variable {X : zX} {I A : zF2} {t : zW} {q n : Nat} {u : Nat → Nat}
theorem v_firstOf (h : zOR I A q n u) {U : Nat → Nat → Nat} (hB : zBe (A 94) n U) {p i : Nat} (hp : p < 4) (hU : zPo n (U p)) (hi : i < n) : zRd X 1 MX9_firstOf [.ref 89, .ref q, .int (nI p), .int (nI (zlf_ n (U p) i))] (zWd I A t) (nI (zgp n (U p) i)) := by
  have h8 := h.n8
  have h28 := z28 h8
  have lf : zlf_ n (U p) i < 2 ^ n := zdf_lt (by have := Nat.one_le_two_pow (n := n); omega)
  have hg := zgp_ok hU (E := U p) (fun _ _ q => q) i hi
  have ll := zlaT_lt (v := U p) (n := n) (zlf_ n (U p) i) n
  have lz : zdf (zlf_ n (U p) i) (zlaT n (U p) (zlf_ n (U p) i) n) < 2 ^ n := zdf_lt lf
  refine eX9_firstOf _ _ _ _ (bX9_firstOf_0 _ _ _ _ ?_)
  refine zdown (P := fun k => zRn X 1 0 0 MX9_firstOf 6 [some (.ref 89), some (.ref q), some (.int (nI p)), some (.int (nI (zlf_ n (U p) i))), some (.int (nI (zlaT n (U p) (zlf_ n (U p) i) k))), some (.int (nI k))] [] (zWd I A t) (fun v w1 => v = some (.int (nI (zgp n (U p) i))) ∧ w1 = zWd I A t)) (n := n) ?_ (fun k hk ih => ?_) 0 (Nat.zero_le _)
  · refine bX9_firstOf_6 _ _ _ _ _ _ (zvRd h.1.ob (v_size h) (by decide) ?_)
    rw [if_pos (Int32.le_refl _)]
    refine zdown (P := fun a => zRn X 1 0 0 MX9_firstOf 51 [none, some (.ref q), none, some (.int (nI (zlf_ n (U p) i))), some (.int (nI (zlaT n (U p) (zlf_ n (U p) i) n))), some (.int (nI a))] [] (zWd I A t) (fun v w1 => v = some (.int (nI (zgp n (U p) i))) ∧ w1 = zWd I A t)) (n := zgp n (U p) i) ?_ (fun a ha iha => ?_) 0 (Nat.zero_le _)
    · refine bX9_firstOf_51 _ _ _ _ (zvRd h.1.ob (v_size h) (by decide) ?_)
      rw [zi_le (by omega) (by omega), if_neg (by omega), zb_df, zi_has (by omega) (by omega), zfirst hU hg]
      obtain ⟨c1, c2⟩ := zgp_y hg
      rw [c1, c2, if_pos (by decide)]
      exact ⟨rfl, rfl⟩
    · have hno := zfst_no (fun a => !(zgs n (U p) i).testBit a && decide (zdf ((U p) a) (zgs n (U p) i) = 0)) n a ha
      refine bX9_firstOf_51 _ _ _ _ (zvRd h.1.ob (v_size h) (by decide) ?_)
      rw [zi_le (by omega) (by omega), if_neg (by omega), zb_df, zi_has (by omega) (by omega), zfirst hU (by omega), hno, if_neg (by decide), nI_1]
      exact iha
  · rw [zlaT_s] at ih
    refine bX9_firstOf_6 _ _ _ _ _ _ (zvRd h.1.ob (v_size h) (by decide) ?_)
    rw [zi_le (by omega) (by omega), if_neg (by omega), zi_has (by omega) (by omega)]
    by_cases c : (zlf_ n (U p) i).testBit k = true
    · rw [if_pos c]
      rw [if_pos c] at ih
      refine ⟨_, fr_89_4.rd, nI (zov n (U p) k), ?_, ?_⟩
      · show zaI _ _ (nI p * nI 8 + nI k) = _
        rw [pk_mul, nI_add, show p * 8 + k = 8 * p + k by omega, ar_94.rd (by omega), hB p k hp hk]
      · refine bX9_firstOf_42 _ _ _ _ _ _ ?_
        rw [zb_or, nI_1]
        exact ih
    · rw [if_neg c]
      rw [if_neg c] at ih
      refine bX9_firstOf_42 _ _ _ _ _ _ ?_
      rw [nI_1]
      exact ih
theorem v_writeRows (h : zOR I A q n u) (hq : q ≠ 17) {U : Nat → Nat → Nat} (hB : zBe (A 94) n U) (hU : ∀ p, zPo n (U p)) {t4 : Nat} (ht : t4 ≤ 4) : zEv X 2 0 0 MX9_writeRows [.ref 89, .ref q, .int (nI t4), .ref (17 + 3)] (zWd I A t) (fun v w1 => v = none ∧ ∃ D, w1 = zWd (va_up I (17 + 3) (upd (I (17 + 3)) 1 (nI t4))) (va_up A (17 + 4) D) t ∧ ∀ p i, p < t4 → i < n → D (8 * p + i) = nI (zgp n (U p) i)) := by
  have h8 := h.n8
  have h28 := z28 h8
  have hqa := h.1.apart q17 hq
  have hor : ∀ (c : Int32) (D : Nat → Int32), zOR (va_up I (17 + 3) (upd (I (17 + 3)) 1 c)) (va_up A (17 + 4) D) q n u := fun c D => by
    obtain ⟨h1, h2, h3, h4, h5⟩ := h
    exact ⟨h1, h2, by rw [zup_ne (by omega)]; exact h3, fun b hb => by rw [zup_ne (by omega)]; exact h4 b hb, fun b hb => by rw [zup_ne (by omega)]; exact h5 b hb⟩
  refine eX9_writeRows _ _ _ _ (bX9_writeRows_0 _ _ _ _ (zvV q17.rob (v_clear q17) (by decide) ?_))
  rintro w1 rfl
  have key : ∀ p, p ≤ t4 → ∀ D : Nat → Int32, (∀ p' i, p' < p → i < n → D (8 * p' + i) = nI (zgp n (U p') i)) → zRn X 2 0 0 MX9_writeRows 7 [some (.ref 89), some (.ref q), some (.int (nI t4)), some (.ref (17 + 3)), some (.int (nI p)), none, none, none, none] [] (zWd (va_up I (17 + 3) (upd (I (17 + 3)) 1 (nI p))) (va_up A (17 + 4) D) t) (fun v w1 => v = none ∧ ∃ D, w1 = zWd (va_up I (17 + 3) (upd (I (17 + 3)) 1 (nI t4))) (va_up A (17 + 4) D) t ∧ ∀ p i, p < t4 → i < n → D (8 * p + i) = nI (zgp n (U p) i)) := by
    refine zdown ?_ ?_
    · intro D hD
      refine bX9_writeRows_7 _ _ _ _ _ ?_
      rw [if_pos (Int32.le_refl _)]
      exact ⟨rfl, D, rfl, hD⟩
    · intro p hp ih D hD
      refine bX9_writeRows_7 _ _ _ _ _ ?_
      rw [zi_le (by omega) (by omega), if_neg (by omega)]
      show if nI 4 ≤ nI p then _ else _
      rw [zi_le (by decide) (by omega), if_neg (by omega)]
      have ho := v_open (X := X) (I := va_up I (17 + 3) (upd (I (17 + 3)) 1 (nI p))) (A := va_up A (17 + 4) D) (t := t) q17 (R := p) (by rw [zup_eq, upd_eq]) (by omega)
      refine zvI1 q17.rob ho (by decide) ?_
      rintro w2 rfl
      rw [zup_eq, bx_uu, upd_uu]
      refine zvRd h.1.ob (v_all (hor (nI (p + 1)) D)) (by decide) ?_
      have inner : ∀ i, i ≤ n → ∀ D : Nat → Int32, (∀ p' i, p' < p → i < n → D (8 * p' + i) = nI (zgp n (U p') i)) → (∀ i', i' < i → D (8 * p + i') = nI (zgp n (U p) i')) → zRn X 2 0 0 MX9_writeRows 34 [some (.ref 89), some (.ref q), some (.int (nI t4)), some (.ref (17 + 3)), some (.int (nI p)), some (.int (nI p)), some (.int (nI (zlf_ n (U p) i))), some (.int (nI i)), none] [] (zWd (va_up I (17 + 3) (upd (I (17 + 3)) 1 (nI (p + 1)))) (va_up A (17 + 4) D) t) (fun v w1 => v = none ∧ ∃ D, w1 = zWd (va_up I (17 + 3) (upd (I (17 + 3)) 1 (nI t4))) (va_up A (17 + 4) D) t ∧ ∀ p i, p < t4 → i < n → D (8 * p + i) = nI (zgp n (U p) i)) := by
        refine zdown ?_ ?_
        · intro D d1 d2
          refine bX9_writeRows_34 _ _ _ _ _ _ _ _ (zvRd h.1.ob (v_size (hor _ D)) (by decide) ?_)
          rw [if_pos (Int32.le_refl _), nI_1]
          refine ih D (fun p' i hp' hi => ?_)
          rcases Nat.lt_or_ge p' p with z | z
          · exact d1 p' i z hi
          · have : p' = p := by omega
            subst this
            exact d2 i hi
        · intro i hi ihi D d1 d2
          have hg := zgp_ok (hU p) (E := U p) (fun _ _ q => q) i hi
          have hB2 : zBe (va_up A (17 + 4) D 94) n U := by
            rw [zup_ne (by decide)]
            exact hB
          refine bX9_writeRows_34 _ _ _ _ _ _ _ _ (zvRd h.1.ob (v_size (hor _ D)) (by decide) ?_)
          rw [zi_le (by omega) (by omega), if_neg (by omega)]
          refine zvRd ob_89 (v_firstOf (hor _ D) hB2 (by omega) (hU p) hi) (by decide) (zvV q17.rob (v_rput q17 (by omega) (by omega) _) (by decide) ?_)
          rintro w3 rfl
          rw [zup_eq, bx_uu, nI_1, zb_1 _ (by omega), zb_df]
          have el : zdf (zlf_ n (U p) i) (2 ^ zgp n (U p) i) = zlf_ n (U p) (i + 1) := zext (fun a => by
            rw [zdf_bit, zlf_bit, zlf_bit, zgs_s, Nat.testBit_or, Nat.testBit_two_pow]
            cases decide (a < n) <;> cases (zgs n (U p) i).testBit a <;> simp)
          rw [el]
          refine ihi _ (fun p' i' hp' hi' => ?_) (fun i' hi' => ?_)
          · rw [upd_ne _ _ (by omega)]
            exact d1 p' i' hp' hi'
          · by_cases e : i' = i
            · rw [e, upd_eq]
            · rw [upd_ne _ _ (by omega)]
              exact d2 i' (by omega)
      have i0 := inner 0 (Nat.zero_le _) D hD (fun i' hi' => absurd hi' (Nat.not_lt_zero _))
      have e0 : zlf_ n (U p) 0 = 2 ^ n - 1 := zext (fun a => by
        rw [zlf_bit, zgs_0, Nat.testBit_two_pow_sub_one]
        simp)
      rw [e0] at i0
      exact i0
  have k0 := key 0 (Nat.zero_le _) (A (17 + 4)) (fun p' i hp' => absurd hp' (Nat.not_lt_zero _))
  rw [zup_self] at k0
  exact k0
end ZR1
theorem zSB_99 (A : zF2) (Ah Pl Md D : Nat → Int32) : va_up (zSB A Ah Pl Md) 99 D = zSB (va_up A 99 D) Ah Pl Md := by
  unfold zSB
  rw [zup_comm _ (show (106 : Nat) ≠ 99 by decide), zup_comm _ (show (111 : Nat) ≠ 99 by decide), zup_comm _ (show (110 : Nat) ≠ 99 by decide)]
theorem zSB_100 (A : zF2) (Ah Pl Md W : Nat → Int32) : va_up (zSB A Ah Pl Md) 100 W = zSB (va_up A 100 W) Ah Pl Md := by
  unfold zSB
  rw [zup_comm _ (show (106 : Nat) ≠ 100 by decide), zup_comm _ (show (111 : Nat) ≠ 100 by decide), zup_comm _ (show (110 : Nat) ≠ 100 by decide)]
section ZR2
variable {X : zX} {I A : zF2} {t : zW} {s n : Nat} {u : Nat → Nat} {T : List (Nat × Nat)}
/-- places laid where the state's rows aren't yet -/
theorem r_laysPlace (hs : s < 3) (h8 : n ≤ 8) (hu8 : ∀ b, u b < 2 ^ n) (hm0 : A 99 (58 * s) = nI n) (hu0 : ∀ b, b < n → A 99 (58 * s + 1 + b) = nI (u b)) (hT : zTw (A 108) (A 109) T) (hTl : T.length ≤ 56) (hTm : ∀ a b, (a, b) ∈ T → a < n ∧ b < n ∧ a ≠ b) {pl : Nat → Nat} {p : Nat} (hp : p < 4) (hpl : ∀ j, j < T.length → pl j < 4) (Ah Pl Md : Nat → Int32) (hPl : ∀ j, j < T.length → Pl j = nI (pl j)) : zEv X 2 0 0 MX12_laysPlace [.ref 98, .int (nI s), .int (nI p), .int (nI T.length), .ref 111] (zWd I (zSB A Ah Pl Md) t) (fun v w1 => v = none ∧ ∃ Ah', w1 = zWd I (zSB A Ah' Pl Md) t ∧ ∀ x, x < n → Ah' (8 * p + x) = nI (zEp u T pl p T.length x)) := by
  have h28 := z28 h8
  have adr : ∀ x, (8 : Int32) * nI p + nI x = nI (8 * p + x) := fun x => by
    show nI 8 * nI p + nI x = _
    rw [pk_mul, nI_add]
  have rm : ∀ Ah, zRd X 1 MX12_many [.ref 98, .int (nI s)] (zWd I (zSB A Ah Pl Md) t) (nI n) := fun Ah => r_many hs (by rw [zSB_ot _ _ _ _ (by decide) (by decide) (by decide)]; exact hm0)
  refine eX12_laysPlace _ _ _ _ _ (bX12_laysPlace_0 _ _ _ _ _ ?_)
  have second : ∀ j, j ≤ T.length → ∀ Ah : Nat → Int32, (∀ x, x < n → Ah (8 * p + x) = nI (zEp u T pl p j x)) → zRn X 2 0 0 MX12_laysPlace 41 [some (.ref 98), none, some (.int (nI p)), some (.int (nI T.length)), some (.ref 111), some (.int (nI j))] [] (zWd I (zSB A Ah Pl Md) t) (fun v w1 => v = none ∧ ∃ Ah', w1 = zWd I (zSB A Ah' Pl Md) t ∧ ∀ x, x < n → Ah' (8 * p + x) = nI (zEp u T pl p T.length x)) := by
    refine zdown ?_ ?_
    · intro Ah hA
      refine bX12_laysPlace_41 _ _ _ _ _ ?_
      rw [if_pos (Int32.le_refl _)]
      exact ⟨rfl, Ah, rfl, hA⟩
    · intro j hj ih Ah hA
      obtain ⟨a, b, e1, hmem⟩ := zlget (show j < T.length by omega)
      obtain ⟨t1, t2⟩ := hT j a b e1
      obtain ⟨ha, hb, -⟩ := hTm a b hmem
      have hj4 := hpl j hj
      have g0 : zaI (zWd I (zSB A Ah Pl Md) t) 111 (nI j) = some (nI (pl j)) := by rw [ar_111.rd (by omega), zSB_111, hPl j hj]
      have g1 : zaI (zWd I (zSB A Ah Pl Md) t) 108 (nI j) = some (nI a) := by rw [ar_108.rd (by omega), zSB_ot _ _ _ _ (by decide) (by decide) (by decide), t1]
      have g2 : zaI (zWd I (zSB A Ah Pl Md) t) 109 (nI j) = some (nI b) := by rw [ar_109.rd (by omega), zSB_ot _ _ _ _ (by decide) (by decide) (by decide), t2]
      have g3 : zaI (zWd I (zSB A Ah Pl Md) t) 110 ((8 : Int32) * nI p + nI a) = some (nI (zEp u T pl p j a)) := by rw [adr, ar_110.rd (by omega), zSB_110, hA a ha]
      rw [zEp_s e1] at ih
      refine bX12_laysPlace_41 _ _ _ _ _ ?_
      rw [zi_le (by omega) (by omega), if_neg (by omega)]
      refine ⟨_, g0, ?_⟩
      rw [zi_eq (by omega) (by omega)]
      by_cases c : pl j = p
      · rw [if_pos c]
        rw [if_pos c] at ih
        refine ⟨_, fr_98_22.rd, _, fr_98_19.rd, _, g1, _, g3, _, fr_98_20.rd, _, g2, zWd I (zSB A (upd Ah (8 * p + a) (nI (zEp u T pl p j a ||| 2 ^ b))) Pl Md) t, ?_, ?_⟩
        · rw [zb_1 b (by omega), zb_or, adr, ar_110.wr (by omega), zSB_110, zSB_s110]
        · refine bX12_laysPlace_85 _ _ _ _ _ ?_
          rw [nI_1]
          refine ih _ (fun x hx => ?_)
          by_cases e : x = a
          · rw [e, upd_eq, zup_eq]
          · rw [upd_ne _ _ (by omega), zup_ne e]
            exact hA x hx
      · rw [if_neg c]
        rw [if_neg c] at ih
        refine bX12_laysPlace_85 _ _ _ _ _ ?_
        rw [nI_1]
        exact ih Ah hA
  have first : ∀ x, x ≤ n → ∀ Ah : Nat → Int32, (∀ x', x' < x → Ah (8 * p + x') = nI (u x')) → zRn X 2 0 0 MX12_laysPlace 3 [some (.ref 98), some (.int (nI s)), some (.int (nI p)), some (.int (nI T.length)), some (.ref 111), some (.int (nI x))] [] (zWd I (zSB A Ah Pl Md) t) (fun v w1 => v = none ∧ ∃ Ah', w1 = zWd I (zSB A Ah' Pl Md) t ∧ ∀ x, x < n → Ah' (8 * p + x) = nI (zEp u T pl p T.length x)) := by
    refine zdown ?_ ?_
    · intro Ah hA
      refine bX12_laysPlace_3 _ _ _ _ _ _ (zvRd ob_98 (rm Ah) (by decide) ?_)
      rw [if_pos (Int32.le_refl _)]
      exact second 0 (Nat.zero_le _) Ah hA
    · intro x hx ih Ah hA
      have ru : zSB A Ah Pl Md 99 (58 * s + 1 + x) = nI (u x) := by rw [zSB_ot _ _ _ _ (by decide) (by decide) (by decide)]; exact hu0 x hx
      refine bX12_laysPlace_3 _ _ _ _ _ _ (zvRd ob_98 (rm Ah) (by decide) ?_)
      rw [zi_le (by omega) (by omega), if_neg (by omega)]
      refine ⟨_, fr_98_22.rd, zvRd ob_98 (r_under hs (by omega) ru) (by decide) ⟨zWd I (zSB A (upd Ah (8 * p + x) (nI (u x))) Pl Md) t, ?_, ?_⟩⟩
      · rw [adr, ar_110.wr (by omega), zSB_110, zSB_s110]
      · rw [nI_1]
        refine ih _ (fun x' hx' => ?_)
        by_cases e : x' = x
        · rw [e, upd_eq]
        · rw [upd_ne _ _ (by omega)]
          exact hA x' (by omega)
  exact first 0 (Nat.zero_le _) Ah (fun x' hx' => absurd hx' (Nat.not_lt_zero _))
theorem r_laysRow (hs : s < 3) (h8 : n ≤ 8) (hm0 : A 99 (58 * s) = nI n) {E : Nat → Nat} {p : Nat} (hp : p < 4) (hE : ∀ x, E x < 2 ^ n) (hok : ∀ i, i < n → zgp n E i < n) (Ah Pl Md : Nat → Int32) (hA : ∀ x, x < n → Ah (8 * p + x) = nI (E x)) : zEv X 2 0 0 MX12_laysRow [.ref 98, .int (nI s), .int (nI p)] (zWd I (zSB A Ah Pl Md) t) (fun v w1 => v = some (.int 1) ∧ ∃ Md', w1 = zWd I (zSB A Ah Pl Md') t ∧ ∀ i, i < n → Md' i = nI (zgp n E i)) := by
  have h28 := z28 h8
  have adr : ∀ x, (8 : Int32) * nI p + nI x = nI (8 * p + x) := fun x => by
    show nI 8 * nI p + nI x = _
    rw [pk_mul, nI_add]
  have rm : ∀ Md, zRd X 1 MX12_many [.ref 98, .int (nI s)] (zWd I (zSB A Ah Pl Md) t) (nI n) := fun Md => r_many hs (by rw [zSB_ot _ _ _ _ (by decide) (by decide) (by decide)]; exact hm0)
  refine eX12_laysRow _ _ _ (bX12_laysRow_0 _ _ _ ?_)
  have key : ∀ i, i ≤ n → ∀ Md : Nat → Int32, (∀ j, j < i → Md j = nI (zgp n E j)) → zRn X 2 0 0 MX12_laysRow 5 [some (.ref 98), some (.int (nI s)), some (.int (nI p)), some (.int (nI (zgs n E i))), some (.int (nI i)), none] [] (zWd I (zSB A Ah Pl Md) t) (fun v w1 => v = some (.int 1) ∧ ∃ Md', w1 = zWd I (zSB A Ah Pl Md') t ∧ ∀ i, i < n → Md' i = nI (zgp n E i)) := by
    refine zdown ?_ ?_
    · intro Md hM
      refine bX12_laysRow_5 _ _ _ _ _ (zvRd ob_98 (rm Md) (by decide) ?_)
      rw [if_pos (Int32.le_refl _)]
      exact ⟨rfl, Md, rfl, hM⟩
    · intro i hi ih Md hM
      have hsl := (zgs_ok (E := E) h8 i (by omega) (fun j hj => hok j (by omega))).1
      have hlt := hok i hi
      refine bX12_laysRow_5 _ _ _ _ _ (zvRd ob_98 (rm Md) (by decide) ?_)
      rw [zi_le (by omega) (by omega), if_neg (by omega)]
      refine zdown (P := fun a => zRn X 2 0 0 MX12_laysRow 18 [some (.ref 98), some (.int (nI s)), some (.int (nI p)), some (.int (nI (zgs n E i))), some (.int (nI i)), some (.int (nI a))] [] (zWd I (zSB A Ah Pl Md) t) _) (n := zgp n E i) ?_ (fun a ha iha => ?_) 0 (Nat.zero_le _)
      · refine bX12_laysRow_18 _ _ _ _ _ _ (zvRd ob_98 (rm Md) (by decide) ?_)
        rw [zi_le (by omega) (by omega), if_neg (by omega)]
        obtain ⟨c1, c2⟩ := zgp_y hlt
        refine zcRd (m_has (by omega) (by omega)) (by decide) ?_
        rw [c1, if_pos (show zB false = 0 from rfl)]
        refine ⟨_, fr_98_22.rd, nI (E (zgp n E i)), ?_, ?_⟩
        · rw [adr, ar_110.rd (by omega), zSB_110, hA _ hlt]
        · rw [zb_df, c2, if_pos (show nI 0 = 0 from rfl)]
          refine bX12_laysRow_62 _ _ _ _ _ _ (zvRd ob_98 (rm Md) (by decide) ?_)
          rw [zi_eq (by omega) (by omega), if_neg (by omega)]
          refine ⟨_, fr_98_17.rd, zWd I (zSB A Ah Pl (upd Md i (nI (zgp n E i)))) t, ?_, ?_⟩
          · rw [ar_106.wr (by omega), zSB_106, zSB_s106]
          · rw [zb_1 _ (by omega), zb_or, nI_1]
            refine ih _ (fun j hj => ?_)
            by_cases e : j = i
            · rw [e, upd_eq]
            · rw [upd_ne _ _ e]
              exact hM j (by omega)
      · have hno := zfst_no (fun a => !(zgs n E i).testBit a && decide (zdf (E a) (zgs n E i) = 0)) n a ha
        have next : zRn X 2 0 0 MX12_laysRow 56 [some (.ref 98), some (.int (nI s)), some (.int (nI p)), some (.int (nI (zgs n E i))), some (.int (nI i)), some (.int (nI a))] [] (zWd I (zSB A Ah Pl Md) t) (fun v w1 => v = some (.int 1) ∧ ∃ Md', w1 = zWd I (zSB A Ah Pl Md') t ∧ ∀ i, i < n → Md' i = nI (zgp n E i)) := by
          refine bX12_laysRow_56 _ _ _ _ _ _ ?_
          rw [nI_1]
          exact iha
        have hz : zdf (E a) (zgs n E i) < 2 ^ n := zdf_lt (hE a)
        refine bX12_laysRow_18 _ _ _ _ _ _ (zvRd ob_98 (rm Md) (by decide) ?_)
        rw [zi_le (by omega) (by omega), if_neg (by omega)]
        refine zcRd (m_has (by omega) (by omega)) (by decide) ?_
        rw [zB_if]
        by_cases c1 : (zgs n E i).testBit a = true
        · rw [if_pos c1]
          exact next
        · rw [if_neg c1]
          refine ⟨_, fr_98_22.rd, nI (E a), ?_, ?_⟩
          · rw [adr, ar_110.rd (by omega), zSB_110, hA a (by omega)]
          · rw [zb_df, zi_0 (by omega), if_neg]
            · exact next
            · intro z
              simp [c1, z] at hno
  exact key 0 (Nat.zero_le _) Md (fun j hj => absurd hj (Nat.not_lt_zero _))
end ZR2
section ZR3
variable {X : zX} {st : zSt} {x y z : Int32}
set_option maxHeartbeats 2000000 in
theorem a_realizes : zAc X MX11_realizes MX12_realizes [.int x, .int y, .int z] st := by
  have no : (∀ I A t, zCI st I A → zEv X 63 0 0 MX11_realizes [.ref 0, .int x, .int y, .int z] (zWd I A t) (zQa st I A t (-2))) → (∀ I A t, zMIv st I A → zEv X 63 0 0 MX12_realizes [.ref 98, .int x, .int y, .int z] (zWd I A t) (zQb_ st I A t (-2))) → zAc X MX11_realizes MX12_realizes [.int x, .int y, .int z] st := fun h1 h2 => zAc.mk (-2) st 63 63 (by decide) (by decide) h1 h2
  rcases zslot st.1 x with ⟨s, hs⟩ | hn
  · by_cases hy : zbt 1 4 y = true
    · have hyd := of_decide_eq_true hy
      by_cases hz : zbt 1 100000 z = true
      · obtain ⟨t4, ht1, ht4, rfl⟩ := zbt_e (a := 1) (b := 4) (by decide) (by decide) hy
        obtain ⟨tr, htr1, htr2, rfl⟩ := zbt_e (a := 1) (b := 100000) (by decide) (by decide) hz
        have hbd := zSe_bd (t := t4) (tr := tr) (zCT (st.1 s).1 (st.1 s).2.1) 0 0 (fun _ => (st.1 s).2.1) (Nat.zero_le _)
        have hmem : ∀ a b, (a, b) ∈ zCT (st.1 s).1 (st.1 s).2.1 → a < (st.1 s).1 ∧ b < (st.1 s).1 ∧ a ≠ b := fun a b hab => by
          obtain ⟨m1, m2, m3⟩ := zCT_mem hab
          exact ⟨m1, m2, zcr_ne m3⟩
        have hpo : zPo (st.1 s).1 (st.1 s).2.1 → ∀ p, zPo (st.1 s).1 ((zSe t4 tr (zCT (st.1 s).1 (st.1 s).2.1) 0 0 (fun _ => (st.1 s).2.1)).2.2 p) := fun hp => zSe_po _ _ _ _ hmem (fun _ => hp)
        have clsR : ∀ I A t, zCI st I A → zEv X 4 0 0 MX9_run [.ref 89, .ref (2 + 5 * s), .int (nI t4), .int (nI tr)] (zWd I A t) (fun v w1 => v = some (.int (zRV (zSe t4 tr (zCT (st.1 s).1 (st.1 s).2.1) 0 0 (fun _ => (st.1 s).2.1)))) ∧ ∃ F G Pl Us Be Sa, w1 = zWd (zIg I (nI (zCT (st.1 s).1 (st.1 s).2.1).length)) (zSA (zTA A F G) Pl Us Be Sa) t ∧ ((zSe t4 tr (zCT (st.1 s).1 (st.1 s).2.1) 0 0 (fun _ => (st.1 s).2.1)).1 = 1 → zBe Be (st.1 s).1 (zSe t4 tr (zCT (st.1 s).1 (st.1 s).2.1) 0 0 (fun _ => (st.1 s).2.1)).2.2)) := fun I A t hC => v_search (hC.ns hs.1).1 ht4 htr2
        have mdlR : ∀ I A t, zMIv st I A → s < 3 → zEv X 61 0 0 MX12_sought [.ref 98, .int (nI s), .int (nI t4), .int (nI tr)] (zWd I A t) (fun v w1 => v = some (.int (zSV (zSe t4 tr (zCT (st.1 s).1 (st.1 s).2.1) 0 0 (fun _ => (st.1 s).2.1)))) ∧ ∃ F G Ah Pl Md, w1 = zWd (zIf (zIf I 21 (nI (zCT (st.1 s).1 (st.1 s).2.1).length)) 23 (nI (zSe t4 tr (zCT (st.1 s).1 (st.1 s).2.1) 0 0 (fun _ => (st.1 s).2.1)).2.1)) (zSB (zMA A F G) Ah Pl Md) t ∧ zTw F G (zCT (st.1 s).1 (st.1 s).2.1) ∧ ((zSe t4 tr (zCT (st.1 s).1 (st.1 s).2.1) 0 0 (fun _ => (st.1 s).2.1)).1 = 1 → ∃ pl' : Nat → Nat, (∀ j, j < (zCT (st.1 s).1 (st.1 s).2.1).length → pl' j < 4 ∧ Pl j = nI (pl' j)) ∧ ∀ p, p < 4 → zGe (st.1 s).1 (zEp (st.1 s).2.1 (zCT (st.1 s).1 (st.1 s).2.1) pl' p (zCT (st.1 s).1 (st.1 s).2.1).length) ((zSe t4 tr (zCT (st.1 s).1 (st.1 s).2.1) 0 0 (fun _ => (st.1 s).2.1)).2.2 p))) := fun I A t hM s3 => m_sought (hM.m3 s s3) ht4 htr2
        generalize zSe t4 tr (zCT (st.1 s).1 (st.1 s).2.1) 0 0 (fun _ => (st.1 s).2.1) = r at *
        by_cases hr1 : r.1 = 1
        · have h31 : r.2.1 < 2 ^ 31 := Nat.lt_of_le_of_lt hbd.2.1 (by omega)
          refine zAc.mk (nI r.2.1) (zPd st s (zRe (st.1 s) t4 r.2.2)) 63 63 (by decide) (by decide) (fun I A t hC => ?_) (fun I A t hM => ?_)
          · have h0 := hC.ns hs.1
            have hv := hC.2.1 s hs.1
            have hU := hpo hv.1
            have hvy := zVl_Re hv hs.2.2 ht4 hU
            refine eX11_realizes _ _ _ _ (bX11_realizes_0 _ _ _ _ (zvO1 ob_0 (v_orderIn1 hC.1 hs) (by decide) ?_))
            rw [if_neg hyd.1, if_neg hyd.2]
            refine zcRd (v_areTries _) (by decide) ?_
            rw [zB_t hz]
            refine ⟨_, fr_0_9.rd, zvI1 ob_89 (clsR I A t hC) (by decide) ?_⟩
            rintro w1 ⟨F, G, Pl, Us, Be, Sa, rfl, hB⟩
            have hB := hB hr1
            rw [zRV1 hr1, if_neg (nI_pos h31)]
            have hk := zKp.vs I A (nI (zCT (st.1 s).1 (st.1 s).2.1).length) F G Pl Us Be Sa
            have hhi : zHiE I A (zIg I (nI (zCT (st.1 s).1 (st.1 s).2.1).length)) (zSA (zTA A F G) Pl Us Be Sa) := (((((((zHiE.refl I A).a (p := 90) (by decide)).a (p := 91) (by decide)).a (p := 92) (by decide)).a (p := 93) (by decide)).a (p := 94) (by decide)).a (p := 95) (by decide)).f (p := 89) (by decide)
            have hC1 := hk.ci hC
            have hB1 : zBe (zSA (zTA A F G) Pl Us Be Sa 94) (st.1 s).1 r.2.2 := by
              rw [zSA_94]
              exact hB
            generalize zIg I (nI (zCT (st.1 s).1 (st.1 s).2.1).length) = I1 at *
            generalize zSA (zTA A F G) Pl Us Be Sa = A1 at *
            have h1 := hC1.ns hs.1
            have hs3 := hs.1
            refine ⟨_, fr_0_1.rd, zvV q17.ob (v_copyFrom q17 (by omega) h1) (by decide) ?_⟩
            rintro w2 ⟨I2, A2, rfl, g1, g2⟩
            have hC2 := g2.kp.ci hC1
            have h2 := hC2.ns hs.1
            have hB2 : zBe (A2 94) (st.1 s).1 r.2.2 := by
              rw [(g2 94 (by decide)).1]
              exact hB1
            refine ⟨_, fr_0_9.rd, _, fr_0_1.rd, zvRf q17.ob (v_rowsOf q17) (by decide) (zvV ob_89 (v_writeRows h2.1 (by omega) hB2 hU ht4) (by decide) ?_)⟩
            rintro w3 ⟨D, rfl, hD⟩
            have hN : zCS (va_up I2 (17 + 3) (upd (I2 (17 + 3)) 1 (nI t4))) (va_up A2 (17 + 4) D) 17 (zRe (st.1 s) t4 r.2.2) := zCS_rows g1 hvy.2.1 rfl (fun p i hp hi => by
              rw [hD p i hp hi]
              show _ = nI (if p < t4 ∧ i < (st.1 s).1 then zgp (st.1 s).1 (r.2.2 p) i else 0)
              rw [if_pos ⟨hp, hi⟩])
            have g3 : zOn 17 I1 A1 (va_up I2 (17 + 3) (upd (I2 (17 + 3)) 1 (nI t4))) (va_up A2 (17 + 4) D) := (g2.f (p := 17 + 3) (by omega)).a (p := 17 + 4) (by omega)
            have hx := hs.2.1
            rw [hx]
            refine zvB (M := MX11_realizes) hC (hhi.trans (g3.hi q17)) (g3.kp.ci hC1) hN hvy hs.1 (by decide) (fun I3 A3 k1 k2 k3 => ?_)
            exact ⟨rfl, I3, A3, rfl, k2, k3⟩
          · have h1 := m_ord1 (X := X) (I := I) (t := t) hM.m3 hs
            obtain ⟨s3, rfl, s0⟩ := hs
            have H : zMR A s (st.1 s).1 (st.1 s).2.1 (st.1 s).2.2.1 (st.1 s).2.2.2 := hM.m3 s s3
            have hv := hM.2.1 s s3
            have hU := hpo hv.1
            have hvy := zVl_Re hv s0 ht4 hU
            have h8 := H.2.1.1
            have h56 := zCT_56 (u := (st.1 s).2.1) h8
            refine eX12_realizes _ _ _ _ (bX12_realizes_0 _ _ _ _ (zvRd ob_98 h1 (by decide) ?_))
            rw [if_neg (by decide)]
            refine zcRd (m_inB (a := 1) (b := 4) (by decide) (by decide) _) (by decide) ?_
            rw [zB_t hy]
            refine zcRd (m_inB (a := 1) (b := 100000) (by decide) (by decide) _) (by decide) ?_
            rw [zB_t hz]
            refine zvI1 ob_98 (mdlR I A t hM s3) (by decide) ?_
            rintro w1 ⟨F, G, Ah, Pl, Md, rfl, hTw, hfound⟩
            obtain ⟨pl, hpl, hGe⟩ := hfound hr1
            rw [zSV1 hr1, if_pos rfl]
            have hkp := zKp.ms2 I A (nI (zCT (st.1 s).1 (st.1 s).2.1).length) (nI r.2.1) F G Ah Pl Md
            have hM1 := hkp.mi hM
            have hlo : zLoE I A (zIf (zIf I 21 (nI (zCT (st.1 s).1 (st.1 s).2.1).length)) 23 (nI r.2.1)) (zSB (zMA A F G) Ah Pl Md) := ((((((((zLoE.refl I A).a (p := 108) (by decide)).a (p := 109) (by decide)).a (p := 110) (by decide)).a (p := 111) (by decide)).a (p := 106) (by decide)).f (p := 98) (by decide)).f (p := 98) (by decide))
            have i21 : zIf (zIf I 21 (nI (zCT (st.1 s).1 (st.1 s).2.1).length)) 23 (nI r.2.1) 98 21 = nI (zCT (st.1 s).1 (st.1 s).2.1).length := by rw [zIf_ne _ _ (by decide), zIf_eq]
            have i23 : zIf (zIf I 21 (nI (zCT (st.1 s).1 (st.1 s).2.1).length)) 23 (nI r.2.1) 98 23 = nI r.2.1 := zIf_eq _ _ _
            generalize zIf (zIf I 21 (nI (zCT (st.1 s).1 (st.1 s).2.1).length)) 23 (nI r.2.1) = I1 at *
            generalize hB0 : zMA A F G = B0 at *
            have hTB : zTw (B0 108) (B0 109) (zCT (st.1 s).1 (st.1 s).2.1) := by
              rw [← hB0, zMA_108, zMA_109]
              exact hTw
            have b99 : ∀ k, k < 174 → B0 99 k = nI (zEs st.1 k) := fun k hk => by
              rw [← hB0]
              unfold zMA
              rw [zup_ne (by decide), zup_ne (by decide)]
              exact hM.1 k hk
            have benc : ∀ k, k < 58 → B0 99 (58 * s + k) = nI (zEn (st.1 s) k) := fun k hk => by
              rw [b99 _ (by omega)]
              unfold zEs
              rw [show (58 * s + k) / 58 = s by omega, show (58 * s + k) % 58 = k by omega]
            refine zvV ob_98 m_remembers (by decide) ?_
            rintro w2 ⟨W, rfl, hW⟩
            rw [zSB_100]
            have hW2 : ∀ k, k < 174 → W k = nI (zEs st.1 k) := fun k hk => by
              rw [hW k hk, zSB_ot _ _ _ _ (by decide) (by decide) (by decide)]
              exact b99 k hk
            -- the rows of the places
            have rowsL : ∀ p, p ≤ t4 → ∀ D Ah Md : Nat → Int32, (D (58 * s) = nI (st.1 s).1) → (∀ b, b < 8 → D (58 * s + 1 + b) = nI ((st.1 s).2.1 b)) → (D (58 * s + 9) = nI t4) → (∀ p' i, p' < p → i < (st.1 s).1 → D (58 * s + 10 + 8 * p' + i) = nI (zgp (st.1 s).1 (r.2.2 p') i)) → (∀ p' i, p' < 6 → i < 8 → (p ≤ p' ∨ (st.1 s).1 ≤ i) → D (58 * s + 10 + 8 * p' + i) = 0) → (∀ j, (j < 58 * s ∨ 58 * s + 58 ≤ j) → D j = B0 99 j) → zRn X 63 0 0 MX12_realizes 102 [some (.ref 98), some (.int (nI s)), some (.int (nI t4)), none, none, some (.int (nI p)), none, none] [] (zWd I1 (zSB (va_up (va_up B0 100 W) 99 D) Ah Pl Md) t) (zQb_ (zPd st s (zRe (st.1 s) t4 r.2.2)) I A t (nI r.2.1)) := by
              refine zdown ?_ ?_
              · intro D Ah Md d0 d1 d9 d2 d3 d4
                refine bX12_realizes_102 _ _ _ _ ?_
                rw [if_pos (Int32.le_refl _)]
                refine ⟨_, fi_98_23.rd, ?_⟩
                rw [i23]
                refine zvD s3 hM.2.1 hvy (hM1.2.2.same (fun q hq => ?_) (fun _ _ => rfl)) (fun k hk => ?_) (zSg_put (A := A) hM.1 (fun k hk => ?_) (fun j hj => ?_)) (fun q hq => ?_) _ (by decide)
                · rw [zSB_ot _ _ _ _ (by omega) (by omega) (by omega), zSB_ot _ _ _ _ (by omega) (by omega) (by omega), zup_ne (by omega), zup_ne (by omega)]
                · rw [zSB_ot _ _ _ _ (by decide) (by decide) (by decide), zup_ne (by decide), zup_eq]
                  exact hW2 k hk
                · rw [zSB_ot _ _ _ _ (by decide) (by decide) (by decide), zup_eq]
                  refine zcell hk (P := fun k => D (58 * s + k) = nI (zEn (zRe (st.1 s) t4 r.2.2) k)) d0 (fun b hb => ?_) d9 (fun p i hp hi => ?_)
                  · rw [zEn_u hb, show 58 * s + (1 + b) = 58 * s + 1 + b by omega]
                    exact d1 b hb
                  · rw [zEn_h hi, show 58 * s + (10 + 8 * p + i) = 58 * s + 10 + 8 * p + i by omega]
                    show _ = nI (if p < t4 ∧ i < (st.1 s).1 then zgp (st.1 s).1 (r.2.2 p) i else 0)
                    by_cases c : p < t4 ∧ i < (st.1 s).1
                    · rw [if_pos c]
                      exact d2 p i c.1 c.2
                    · rw [if_neg c, d3 p i hp hi (by omega)]
                      rfl
                · rw [zSB_ot _ _ _ _ (by decide) (by decide) (by decide), zup_eq, d4 j hj, ← hB0]
                  unfold zMA
                  rw [zup_ne (by decide), zup_ne (by decide)]
                · have z1 := hlo q hq
                  rw [zSB_ot _ _ _ _ (by omega) (by omega) (by omega)] at z1
                  refine ⟨?_, z1.2⟩
                  rw [zSB_ot _ _ _ _ (by omega) (by omega) (by omega), zup_ne (by omega), zup_ne (by omega)]
                  exact z1.1
              · intro p hp ih D Ah Md d0 d1 d9 d2 d3 d4
                have hm0 : va_up (va_up B0 100 W) 99 D 99 (58 * s) = nI (st.1 s).1 := by rw [zup_eq, d0]
                have hu0 : ∀ b, b < (st.1 s).1 → va_up (va_up B0 100 W) 99 D 99 (58 * s + 1 + b) = nI ((st.1 s).2.1 b) := fun b hb => by rw [zup_eq, d1 b (by omega)]
                have hT2 : zTw (va_up (va_up B0 100 W) 99 D 108) (va_up (va_up B0 100 W) 99 D 109) (zCT (st.1 s).1 (st.1 s).2.1) := by
                  rw [zup_ne (by decide), zup_ne (by decide), zup_ne (by decide), zup_ne (by decide)]
                  exact hTB
                refine bX12_realizes_102 _ _ _ _ ?_
                rw [zi_le (by omega) (by omega), if_neg (by omega)]
                refine ⟨_, fi_98_21.rd, ?_⟩
                rw [i21]
                refine ⟨_, fr_98_24.rd, zvV (d1 := 2) ob_98 (r_laysPlace s3 h8 hv.1.2.1 hm0 hu0 hT2 h56 hmem (pl := pl) (p := p) (by omega) (fun j hj => (hpl j hj).1) Ah Pl Md (fun j hj => (hpl j hj).2)) (by decide) ?_⟩
                rintro w3 ⟨Ah1, rfl, hAh1⟩
                have hg := hGe p (by omega)
                refine zvI1 (d1 := 2) ob_98 (r_laysRow s3 h8 hm0 (E := zEp (st.1 s).2.1 (zCT (st.1 s).1 (st.1 s).2.1) pl p (zCT (st.1 s).1 (st.1 s).2.1).length) (p := p) (by omega) (zEp_lt hv.1.2.1 hmem _) (zgp_ok hg.1 hg.2.1) Ah1 Pl Md hAh1) (by decide) ?_
                rintro w4 ⟨Md1, rfl, hMd⟩
                have hMd : ∀ i, i < (st.1 s).1 → Md1 i = nI (zgp (st.1 s).1 (r.2.2 p) i) := fun i hi => by
                  rw [hMd i hi, zgp_eq hg hi]
                have lay : ∀ i, i ≤ (st.1 s).1 → ∀ D : Nat → Int32, (D (58 * s) = nI (st.1 s).1) → (∀ b, b < 8 → D (58 * s + 1 + b) = nI ((st.1 s).2.1 b)) → (D (58 * s + 9) = nI t4) → (∀ p' i, p' < p → i < (st.1 s).1 → D (58 * s + 10 + 8 * p' + i) = nI (zgp (st.1 s).1 (r.2.2 p') i)) → (∀ i', i' < i → D (58 * s + 10 + 8 * p + i') = nI (zgp (st.1 s).1 (r.2.2 p) i')) → (∀ p' i, p' < 6 → i < 8 → (p + 1 ≤ p' ∨ (st.1 s).1 ≤ i) → D (58 * s + 10 + 8 * p' + i) = 0) → (∀ j, (j < 58 * s ∨ 58 * s + 58 ≤ j) → D j = B0 99 j) → zRn X 63 0 0 MX12_realizes 135 [some (.ref 98), some (.int (nI s)), some (.int (nI t4)), none, none, some (.int (nI p)), none, some (.int (nI i))] [] (zWd I1 (zSB (va_up (va_up B0 100 W) 99 D) Ah1 Pl Md1) t) (zQb_ (zPd st s (zRe (st.1 s) t4 r.2.2)) I A t (nI r.2.1)) := by
                  refine zdown ?_ ?_
                  · intro D e0 e1 e9 e2 e3 e4 e5
                    have r0 : zSB (va_up (va_up B0 100 W) 99 D) Ah1 Pl Md1 99 (58 * s) = nI (st.1 s).1 := by rw [zSB_ot _ _ _ _ (by decide) (by decide) (by decide), zup_eq, e0]
                    refine bX12_realizes_135 _ _ _ _ _ (zvRd ob_98 (r_many s3 r0) (by decide) ?_)
                    rw [if_pos (Int32.le_refl _), nI_1]
                    refine ih D Ah1 Md1 e0 e1 e9 (fun p' i hp' hi => ?_) e4 e5
                    rcases Nat.lt_or_ge p' p with q | q
                    · exact e2 p' i q hi
                    · have : p' = p := by omega
                      subst this
                      exact e3 i hi
                  · intro i hi ihi D e0 e1 e9 e2 e3 e4 e5
                    have r0 : zSB (va_up (va_up B0 100 W) 99 D) Ah1 Pl Md1 99 (58 * s) = nI (st.1 s).1 := by rw [zSB_ot _ _ _ _ (by decide) (by decide) (by decide), zup_eq, e0]
                    refine bX12_realizes_135 _ _ _ _ _ (zvRd ob_98 (r_many s3 r0) (by decide) ?_)
                    rw [zi_le (by omega) (by omega), if_neg (by omega)]
                    refine ⟨_, fr_98_17.rd, nI (zgp (st.1 s).1 (r.2.2 p) i), ?_, ?_⟩
                    · rw [ar_106.rd (by omega), zSB_106, hMd i hi]
                    · have ea : (10 : Int32) + (8 : Int32) * nI p + nI i = nI (10 + 8 * p + i) := by
                        show nI 10 + nI 8 * nI _ + nI i = _
                        rw [pk_mul, nI_add, nI_add]
                      rw [ea]
                      refine zvV ob_98 (m_lays s3 (k := 10 + 8 * p + i) (by omega) _) (by decide) ?_
                      rintro w5 rfl
                      rw [zSB_ot _ _ _ _ (by decide) (by decide) (by decide), zup_eq, zSB_99, bx_uu, nI_1]
                      refine ihi _ ?_ (fun b hb => ?_) ?_ (fun p' i' hp' hi' => ?_) (fun i' hi' => ?_) (fun p' i' h1 h2 h3 => ?_) (fun j hj => ?_)
                      · rw [upd_ne _ _ (by omega)]
                        exact e0
                      · rw [upd_ne _ _ (by omega)]
                        exact e1 b hb
                      · rw [upd_ne _ _ (by omega)]
                        exact e9
                      · rw [upd_ne _ _ (by omega)]
                        exact e2 p' i' hp' hi'
                      · by_cases e : i' = i
                        · rw [e, show 58 * s + 10 + 8 * p + i = 58 * s + (10 + 8 * p + i) by omega, upd_eq]
                        · rw [upd_ne _ _ (by omega)]
                          exact e3 i' (by omega)
                      · rw [upd_ne _ _ (by omega)]
                        exact e4 p' i' h1 h2 h3
                      · rw [upd_ne _ _ (by omega)]
                        exact e5 j hj
                exact lay 0 (Nat.zero_le _) D d0 d1 d9 d2 (fun i' hi' => absurd hi' (Nat.not_lt_zero _)) (fun p' i' h1 h2 h3 => d3 p' i' h1 h2 (by omega)) d4
            have clearL : ∀ k, k ≤ 58 → 9 ≤ k → ∀ D : Nat → Int32, (∀ j, 9 ≤ j → j < k → D (58 * s + j) = 0) → (∀ j, (j < 58 * s + 9 ∨ 58 * s + k ≤ j) → D j = B0 99 j) → zRn X 63 0 0 MX12_realizes 70 [some (.ref 98), some (.int (nI s)), some (.int (nI t4)), none, none, some (.int (nI k)), none, none] [] (zWd I1 (zSB (va_up (va_up B0 100 W) 99 D) Ah Pl Md) t) (zQb_ (zPd st s (zRe (st.1 s) t4 r.2.2)) I A t (nI r.2.1)) := by
              refine zdown ?_ ?_
              · intro _ D d1 d2
                refine bX12_realizes_70 _ _ _ _ ?_
                rw [if_pos (by decide)]
                refine zvV ob_98 (m_lays s3 (k := 9) (by decide) _) (by decide) ?_
                rintro w3 rfl
                rw [zSB_ot _ _ _ _ (by decide) (by decide) (by decide), zup_eq, zSB_99, bx_uu]
                refine rowsL 0 (Nat.zero_le _) _ Ah Md ?_ (fun b hb => ?_) (upd_eq _ _ _) (fun p' i hp' => absurd hp' (Nat.not_lt_zero _)) (fun p' i hp' hi _ => ?_) (fun j hj => ?_)
                · rw [upd_ne _ _ (by omega), d2 _ (by omega)]
                  have := benc 0 (by decide)
                  exact this
                · rw [upd_ne _ _ (by omega), d2 _ (by omega), show 58 * s + 1 + b = 58 * s + (1 + b) by omega, benc _ (by omega), zEn_u hb]
                · rw [upd_ne _ _ (by omega)]
                  have := d1 (10 + 8 * p' + i) (by omega) (by omega)
                  rw [show 58 * s + (10 + 8 * p' + i) = 58 * s + 10 + 8 * p' + i by omega] at this
                  exact this
                · rw [upd_ne _ _ (by omega)]
                  exact d2 j (by omega)
              · intro k hk ih h9 D d1 d2
                refine bX12_realizes_70 _ _ _ _ ?_
                show if nI 58 ≤ nI k then _ else _
                rw [zi_le (by decide) (by omega), if_neg (by omega)]
                refine zvV ob_98 (m_lays s3 hk _) (by decide) ?_
                rintro w3 rfl
                rw [zSB_ot _ _ _ _ (by decide) (by decide) (by decide), zup_eq, zSB_99, bx_uu, nI_1]
                refine ih (by omega) _ (fun j h1 h2 => ?_) (fun j hj => ?_)
                · by_cases e : j = k
                  · rw [e, upd_eq]
                  · rw [upd_ne _ _ (by omega)]
                    exact d1 j h1 (by omega)
                · rw [upd_ne _ _ (by omega)]
                  exact d2 j (by omega)
            have c0 := clearL 9 (by decide) (Nat.le_refl _) (B0 99) (fun j h1 h2 => by omega) (fun _ _ => rfl)
            have e1 : va_up (va_up B0 100 W) 99 (B0 99) = va_up B0 100 W := by
              have : B0 99 = va_up B0 100 W 99 := by rw [zup_ne (by decide)]
              rw [this, zup_self]
            rw [e1] at c0
            exact c0
        · have hneg : ∃ v : Int32, v < 0 ∧ zRV r = v ∧ ((zSV r = 0 ∧ v = -1) ∨ (zSV r ≠ 1 ∧ zSV r ≠ 0 ∧ v = -3)) := by
            rcases hbd.2.2 with q | q | q
            · exact ⟨-1, by decide, zRV0 q, Or.inl ⟨zSV0 q, rfl⟩⟩
            · exact absurd q hr1
            · exact ⟨-3, by decide, zRV3 q, Or.inr ⟨by rw [zSV3 q]; decide, by rw [zSV3 q]; decide, rfl⟩⟩
          obtain ⟨v, hv0, hv1, hv2⟩ := hneg
          refine zAc.mk v st 63 63 (by decide) (by decide) (fun I A t hC => ?_) (fun I A t hM => ?_)
          · refine eX11_realizes _ _ _ _ (bX11_realizes_0 _ _ _ _ (zvO1 ob_0 (v_orderIn1 hC.1 hs) (by decide) ?_))
            rw [if_neg hyd.1, if_neg hyd.2]
            refine zcRd (v_areTries _) (by decide) ?_
            rw [zB_t hz]
            refine ⟨_, fr_0_9.rd, zvI1 ob_89 (clsR I A t hC) (by decide) ?_⟩
            rintro w1 ⟨F, G, Pl, Us, Be, Sa, rfl, -⟩
            have hk := zKp.vs I A (nI (zCT (st.1 s).1 (st.1 s).2.1).length) F G Pl Us Be Sa
            rw [hv1, if_pos hv0]
            exact ⟨rfl, _, _, rfl, hk.ci hC, hk.pm⟩
          · have h1 := m_ord1 (X := X) (I := I) (t := t) hM.m3 hs
            obtain ⟨s3, rfl, s0⟩ := hs
            refine eX12_realizes _ _ _ _ (bX12_realizes_0 _ _ _ _ (zvRd ob_98 h1 (by decide) ?_))
            rw [if_neg (by decide)]
            refine zcRd (m_inB (a := 1) (b := 4) (by decide) (by decide) _) (by decide) ?_
            rw [zB_t hy]
            refine zcRd (m_inB (a := 1) (b := 100000) (by decide) (by decide) _) (by decide) ?_
            rw [zB_t hz]
            refine zvI1 ob_98 (mdlR I A t hM s3) (by decide) ?_
            rintro w1 ⟨F, G, Ah, Pl, Md, rfl, -, -⟩
            have hkp := zKp.ms2 I A (nI (zCT (st.1 s).1 (st.1 s).2.1).length) (nI r.2.1) F G Ah Pl Md
            rcases hv2 with ⟨q1, q2⟩ | ⟨q1, q2, q3⟩
            · rw [q1, if_neg (by decide), if_pos rfl, q2]
              exact ⟨rfl, _, _, rfl, hkp.mi hM, hkp.pc⟩
            · rw [if_neg q1, if_neg q2, q3]
              exact ⟨rfl, _, _, rfl, hkp.mi hM, hkp.pc⟩
      · rw [Bool.not_eq_true] at hz
        refine no (fun I A t hC => ?_) (fun I A t hM => ?_)
        · refine eX11_realizes _ _ _ _ (bX11_realizes_0 _ _ _ _ (zvO1 ob_0 (v_orderIn1 hC.1 hs) (by decide) ?_))
          rw [if_neg hyd.1, if_neg hyd.2]
          refine zcRd (v_areTries _) (by decide) ?_
          rw [zB_f hz]
          exact zQa.id hC
        · refine eX12_realizes _ _ _ _ (bX12_realizes_0 _ _ _ _ (zvRd ob_98 (m_ord1 hM.m3 hs) (by decide) ?_))
          rw [if_neg (by decide)]
          refine zcRd (m_inB (a := 1) (b := 4) (by decide) (by decide) _) (by decide) ?_
          rw [zB_t hy]
          refine zcRd (m_inB (a := 1) (b := 100000) (by decide) (by decide) _) (by decide) ?_
          rw [zB_f hz]
          exact zQb_.id hM
    · rw [Bool.not_eq_true] at hy
      have hyd := of_decide_eq_false hy
      refine no (fun I A t hC => ?_) (fun I A t hM => ?_)
      · refine eX11_realizes _ _ _ _ (bX11_realizes_0 _ _ _ _ (zvO1 ob_0 (v_orderIn1 hC.1 hs) (by decide) ?_))
        by_cases c1 : y < 1
        · rw [if_pos c1]
          exact zQa.id hC
        · rw [if_neg c1]
          by_cases c2 : 4 < y
          · rw [if_pos c2]
            exact zQa.id hC
          · exact absurd ⟨c1, c2⟩ hyd
      · refine eX12_realizes _ _ _ _ (bX12_realizes_0 _ _ _ _ (zvRd ob_98 (m_ord1 hM.m3 hs) (by decide) ?_))
        rw [if_neg (by decide)]
        refine zcRd (m_inB (a := 1) (b := 4) (by decide) (by decide) _) (by decide) ?_
        rw [zB_f hy]
        exact zQb_.id hM
  · refine no (fun I A t hC => ?_) (fun I A t hM => ?_)
    · exact eX11_realizes _ _ _ _ (bX11_realizes_0 _ _ _ _ (zvO0 ob_0 (v_orderIn0 hC.1 hn) (by decide) (zQa.id hC)))
    · refine eX12_realizes _ _ _ _ (bX12_realizes_0 _ _ _ _ (zvRd ob_98 (m_ord0 hM.m3 hn) (by decide) ?_))
      rw [if_pos rfl]
      exact zQb_.id hM
end ZR3
