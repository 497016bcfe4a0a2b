/-! ===== joins ===== -/
def zju (n : Nat) (u : Nat → Nat) (m : Nat) (v : Nat → Nat) (ab : Bool) : Nat → Nat := fun b => if b < n then u b else if b < n + m then v (b - n) * 2 ^ n ||| (if ab = true then 2 ^ n - 1 else 0) else 0
theorem zju_lt {n m : Nat} {u v : Nat → Nat} (hu : zPo n u) (hv : zPo m v) (ab : Bool) (i j : Nat) : zlt (zju n u m v ab) i j = true ↔ ((j < n ∧ zlt u i j = true) ∨ (n ≤ j ∧ j < n + m ∧ ((n ≤ i ∧ zlt v (i - n) (j - n) = true) ∨ (ab = true ∧ i < n)))) := by
  show ((if j < n then u j else if j < n + m then v (j - n) * 2 ^ n ||| (if ab = true then 2 ^ n - 1 else 0) else 0).testBit i = true) ↔ _
  by_cases c1 : j < n
  · rw [if_pos c1]
    constructor
    · exact fun q => Or.inl ⟨c1, q⟩
    · rintro (q | q)
      · exact q.2
      · omega
  · rw [if_neg c1]
    by_cases c2 : j < n + m
    · rw [if_pos c2, Nat.testBit_or, Nat.testBit_mul_two_pow, Bool.or_eq_true, Bool.and_eq_true, decide_eq_true_eq]
      constructor
      · rintro (q | q)
        · exact Or.inr ⟨by omega, c2, Or.inl q⟩
        · cases ab
          · rw [if_neg (by decide)] at q
            simp at q
          · rw [if_pos rfl, Nat.testBit_two_pow_sub_one, decide_eq_true_eq] at q
            exact Or.inr ⟨by omega, c2, Or.inr ⟨rfl, q⟩⟩
      · rintro (q | ⟨-, -, q | q⟩)
        · omega
        · exact Or.inl q
        · refine Or.inr ?_
          rw [if_pos q.1, Nat.testBit_two_pow_sub_one]
          exact decide_eq_true q.2
    · rw [if_neg c2]
      constructor
      · intro q
        simp at q
      · rintro (q | q) <;> omega
theorem zju_po {n m : Nat} {u v : Nat → Nat} (hu : zPo n u) (hv : zPo m v) (ab : Bool) (hnm : n + m ≤ 8) : zPo (n + m) (zju n u m v ab) := by
  have key := zju_lt hu hv ab
  refine ⟨hnm, fun b => zlt_of (fun i hi => ?_), fun b hb => ?_, fun a => ?_, fun a b c h1 h2 => ?_⟩
  · cases hc : (zju n u m v ab b).testBit i
    · rfl
    · rcases (key i b).mp hc with q | ⟨-, -, q | q⟩
      · have := (hu.lt q.2).1
        omega
      · have := (hv.lt q.2).1
        omega
      · omega
  · show (if b < n then u b else if b < n + m then v (b - n) * 2 ^ n ||| (if ab = true then 2 ^ n - 1 else 0) else 0) = 0
    rw [if_neg (by omega), if_neg (by omega)]
  · cases hc : zlt (zju n u m v ab) a a
    · rfl
    · rcases (key a a).mp hc with q | ⟨q1, -, q | q⟩
      · rw [hu.2.2.2.1 a] at q
        cases q.2
      · rw [hv.2.2.2.1] at q
        cases q.2
      · omega
  · refine (key a c).mpr ?_
    rcases (key b c).mp h2 with q | ⟨q1, q2, q | q⟩
    · rcases (key a b).mp h1 with r | ⟨r1, r2, r | r⟩
      · exact Or.inl ⟨q.1, hu.2.2.2.2 _ _ _ r.2 q.2⟩
      · have := (hu.lt q.2).1
        omega
      · have := (hu.lt q.2).1
        omega
    · rcases (key a b).mp h1 with r | ⟨r1, r2, r | r⟩
      · omega
      · exact Or.inr ⟨q1, q2, Or.inl ⟨r.1, hv.2.2.2.2 _ _ _ r.2 q.2⟩⟩
      · exact Or.inr ⟨q1, q2, Or.inr r⟩
    · rcases (key a b).mp h1 with r | ⟨r1, r2, r | r⟩
      · exact Or.inr ⟨q1, q2, Or.inr ⟨q.1, (hu.lt r.2).1⟩⟩
      · omega
      · omega
theorem zov_ju {n m : Nat} {u v : Nat → Nat} (hu : zPo n u) (hv : zPo m v) (ab : Bool) (hnm : n + m ≤ 8) (b : Nat) : zov (n + m) (zju n u m v ab) b = if b < n then zov n u b ||| (if ab = true then (2 ^ m - 1) * 2 ^ n else 0) else zov m v (b - n) * 2 ^ n := zext (fun j => by
  rw [zov_bit (zju_po hu hv ab hnm), Bool.eq_iff_iff, zju_lt hu hv]
  by_cases c : b < n
  · rw [if_pos c, Nat.testBit_or, zov_bit hu, Bool.or_eq_true]
    constructor
    · rintro (q | ⟨q1, q2, q | q⟩)
      · exact Or.inl q.2
      · omega
      · refine Or.inr ?_
        rw [if_pos q.1, Nat.testBit_mul_two_pow, Nat.testBit_two_pow_sub_one, Bool.and_eq_true, decide_eq_true_eq, decide_eq_true_eq]
        omega
    · rintro (q | q)
      · exact Or.inl ⟨(hu.lt q).2, q⟩
      · cases ab
        · rw [if_neg (by decide)] at q
          simp at q
        · rw [if_pos rfl, Nat.testBit_mul_two_pow, Nat.testBit_two_pow_sub_one, Bool.and_eq_true, decide_eq_true_eq, decide_eq_true_eq] at q
          exact Or.inr ⟨q.1, by omega, Or.inr ⟨rfl, c⟩⟩
  · rw [if_neg c, Nat.testBit_mul_two_pow, zov_bit hv, Bool.and_eq_true, decide_eq_true_eq]
    constructor
    · rintro (q | ⟨q1, q2, q | q⟩)
      · have := (hu.lt q.2).1
        omega
      · exact ⟨q1, q.2⟩
      · omega
    · rintro ⟨q1, q2⟩
      have := (hv.lt q2).2
      exact Or.inr ⟨q1, by omega, Or.inl ⟨by omega, q2⟩⟩)
def zJo (x y : zSl) (ab : Bool) : zSl := (x.1 + y.1, zju x.1 x.2.1 y.1 y.2.1 ab, 0, fun _ _ => 0)
theorem zVl_Jo {x y : zSl} (hx : zVl x) (hy : zVl y) (ab : Bool) (h : x.1 + y.1 ≤ 8) : zVl (zJo x y ab) := ⟨zju_po hx.1 hy.1 ab h, zHo_0 _, fun _ => rfl⟩
theorem zmul8 {n m a : Nat} (hn : n + m ≤ 8) (ha : a < 2 ^ m) : a * 2 ^ n < 2 ^ 32 := by
  have h1 : a * 2 ^ n < 2 ^ m * 2 ^ n := Nat.mul_lt_mul_of_pos_right ha (Nat.two_pow_pos n)
  rw [← Nat.pow_add] at h1
  have h2 : 2 ^ (m + n) ≤ 2 ^ 8 := Nat.pow_le_pow_right (by decide) (by omega)
  have h3 : (2 : Nat) ^ 8 < 2 ^ 32 := by decide
  omega
section ZJ1
variable {X : zX} {I A : zF2} {t : zW} {q q1 q2 : Nat} {x y : zSl}
theorem v_unite (hq : zOq q) (H1 : zCS I A q1 x) (H2 : zCS I A q2 y) (n1 : q ≠ q1) (n2 : q ≠ q2) (ab : Bool) (hxy : x.1 + y.1 ≤ 8) : zEv X 3 0 0 MX5_unite [.ref q, .ref q1, .ref q2, .int (zB ab)] (zWd I A t) (fun v w1 => v = none ∧ ∃ I' A', w1 = zWd I' A' t ∧ zCS I' A' q (zJo x y ab) ∧ zOn q I A I' A') := by
  refine eX5_unite _ _ _ _ (bX5_unite_0 _ _ _ _ ⟨_, H1.1.sz, _, H2.1.sz, ?_⟩)
  rw [nI_add]
  refine zvV hq.ob (v_begin hq hxy) (by decide) ?_
  rintro w1 ⟨I1, A1, rfl, g1, g2⟩
  have hp1 := H1.1.2.1
  have hp2 := H2.1.2.1
  have key : ∀ k, k ≤ x.1 + y.1 → ∀ B C : Nat → Int32, (∀ j, j < k → B j = nI (zju x.1 x.2.1 y.1 y.2.1 ab j) ∧ C j = nI (zov (x.1 + y.1) (zju x.1 x.2.1 y.1 y.2.1 ab) j)) → zRn X 3 0 0 MX5_unite 20 [some (.ref q), some (.ref q1), some (.ref q2), some (.int (zB ab)), some (.int (nI x.1)), some (.int (nI k))] [] (zWd I1 (va_up (va_up A1 (q + 1) B) (q + 2) C) t) (fun v w1 => v = none ∧ ∃ I' A', w1 = zWd I' A' t ∧ zCS I' A' q (zJo x y ab) ∧ zOn q I A I' A') := by
    have gn : ∀ B C, zOn q I A I1 (va_up (va_up A1 (q + 1) B) (q + 2) C) := fun B C => (g2.a (p := q + 1) (by omega)).a (p := q + 2) (by omega)
    have hz : ∀ B C, zfI (zWd I1 (va_up (va_up A1 (q + 1) B) (q + 2) C) t) q 5 3 = some (nI (x.1 + y.1)) := fun B C => by
      rw [hq.sz.rd, g1.1.2.2.1]
      rfl
    refine zdown ?_ ?_
    · intro B C h1
      refine bX5_unite_20 _ _ _ _ _ _ ⟨_, hz B C, ?_⟩
      rw [if_pos (Int32.le_refl _)]
      refine ⟨rfl, I1, _, rfl, ⟨⟨hq, zju_po hp1 hp2 ab hxy, g1.1.2.2.1, fun j hj => ?_, fun j hj => ?_⟩, zHo_0 _, g1.2.2.1, fun r i hr => absurd hr (Nat.not_lt_zero _)⟩, gn B C⟩
      · rw [zup_ne (by omega), zup_eq]
        exact (h1 j hj).1
      · rw [zup_eq]
        exact (h1 j hj).2
    · intro k hk ih B C h1
      have K1 := (gn B C).cs hq n1 H1
      have K2 := (gn B C).cs hq n2 H2
      have next : zRn X 3 0 0 MX5_unite 132 [some (.ref q), some (.ref q1), some (.ref q2), some (.int (zB ab)), some (.int (nI x.1)), some (.int (nI k))] [] (zWd I1 (va_up (va_up A1 (q + 1) (upd B k (nI (zju x.1 x.2.1 y.1 y.2.1 ab k)))) (q + 2) (upd C k (nI (zov (x.1 + y.1) (zju x.1 x.2.1 y.1 y.2.1 ab) k)))) t) (fun v w1 => v = none ∧ ∃ I' A', w1 = zWd I' A' t ∧ zCS I' A' q (zJo x y ab) ∧ zOn q I A I' A') := by
        refine bX5_unite_132 _ _ _ _ _ _ ?_
        rw [nI_1]
        refine ih _ _ (fun j hj => ?_)
        by_cases e : j = k
        · rw [e, upd_eq, upd_eq]
          exact ⟨rfl, rfl⟩
        · rw [upd_ne _ _ e, upd_ne _ _ e]
          exact h1 j (by omega)
      have wB : ∀ z, zsI (zWd I1 (va_up (va_up A1 (q + 1) B) (q + 2) C) t) (q + 1) (nI k) z = some (zWd I1 (va_up (va_up A1 (q + 1) (upd B k z)) (q + 2) C) t) := fun z => by
        rw [hq.bA.wr (by omega), zup_ne (show q + 1 ≠ q + 2 by omega), zup_eq, zup_comm _ (show q + 2 ≠ q + 1 by omega), bx_uu]
      have wC : ∀ B' z, zsI (zWd I1 (va_up (va_up A1 (q + 1) B') (q + 2) C) t) (q + 2) (nI k) z = some (zWd I1 (va_up (va_up A1 (q + 1) B') (q + 2) (upd C k z)) t) := fun B' z => by
        rw [hq.aA.wr (by omega), zup_eq, bx_uu]
      refine bX5_unite_20 _ _ _ _ _ _ ⟨_, hz B C, ?_⟩
      rw [zi_le (by omega) (by omega), if_neg (by omega), zi_le (by omega) (by omega)]
      by_cases c : x.1 ≤ k
      · rw [if_pos c, pk_sub c]
        have e1 : zju x.1 x.2.1 y.1 y.2.1 ab k = y.2.1 (k - x.1) * 2 ^ x.1 ||| (if ab = true then 2 ^ x.1 - 1 else 0) := by
          unfold zju
          rw [if_neg (by omega), if_pos hk]
        have e2 := zov_ju hp1 hp2 ab hxy k
        rw [if_neg (by omega)] at e2
        refine ⟨_, hq.bl.rd, zvRd K2.1.1.ob (v_belowOf K2.1 (by omega)) (by decide) ?_⟩
        have l1 := zmul8 hxy (hp2.2.1 (k - x.1))
        have l2 := zmul8 hxy (zov_lt y.1 y.2.1 (k - x.1))
        rw [zb_shl (by omega) l1]
        have go : ∀ z : Nat, zju x.1 x.2.1 y.1 y.2.1 ab k = y.2.1 (k - x.1) * 2 ^ x.1 ||| z → zRn X 3 0 0 MX5_unite 111 [some (.ref q), some (.ref q1), some (.ref q2), some (.int (zB ab)), some (.int (nI x.1)), some (.int (nI k))] [.int (nI z), .int (nI (y.2.1 (k - x.1) * 2 ^ x.1)), .int (nI k), .ref (q + 1)] (zWd I1 (va_up (va_up A1 (q + 1) B) (q + 2) C) t) (fun v w1 => v = none ∧ ∃ I' A', w1 = zWd I' A' t ∧ zCS I' A' q (zJo x y ab) ∧ zOn q I A I' A') := fun z hz => by
          refine bX5_unite_111 _ _ _ _ _ _ _ _ _ _ ?_
          rw [zb_or, ← hz]
          refine ⟨_, wB _, _, hq.ab.rd, ?_⟩
          have K3 := (gn (upd B k (nI (zju x.1 x.2.1 y.1 y.2.1 ab k))) C).cs hq n2 H2
          rw [pk_sub c]
          refine zvRd K3.1.1.ob (v_aboveOf K3.1 (by omega)) (by decide) ?_
          rw [zb_shl (by omega) l2, ← e2]
          exact ⟨_, wC _ _, next⟩
        rw [zB_if]
        cases ab
        · rw [if_neg (by decide)]
          exact go 0 e1
        · rw [if_pos rfl]
          exact zvRd K1.1.1.ob (v_all K1.1) (by decide) (go (2 ^ x.1 - 1) e1)
      · rw [if_neg c]
        have e1 : zju x.1 x.2.1 y.1 y.2.1 ab k = x.2.1 k := by
          unfold zju
          rw [if_pos (by omega)]
        have e2 := zov_ju hp1 hp2 ab hxy k
        rw [if_pos (by omega)] at e2
        refine ⟨_, hq.bl.rd, zvRd K1.1.1.ob (v_belowOf K1.1 (by omega)) (by decide) ?_⟩
        rw [← e1]
        refine ⟨_, wB _, _, hq.ab.rd, ?_⟩
        have K3 := (gn (upd B k (nI (zju x.1 x.2.1 y.1 y.2.1 ab k))) C).cs hq n1 H1
        have K4 := (gn (upd B k (nI (zju x.1 x.2.1 y.1 y.2.1 ab k))) C).cs hq n2 H2
        refine zvRd K3.1.1.ob (v_aboveOf K3.1 (by omega)) (by decide) ?_
        have go : ∀ z : Nat, zov (x.1 + y.1) (zju x.1 x.2.1 y.1 y.2.1 ab) k = zov x.1 x.2.1 k ||| z → zRn X 3 0 0 MX5_unite 76 [some (.ref q), some (.ref q1), some (.ref q2), some (.int (zB ab)), some (.int (nI x.1)), some (.int (nI k))] [.int (nI z), .int (nI (zov x.1 x.2.1 k)), .int (nI k), .ref (q + 2)] (zWd I1 (va_up (va_up A1 (q + 1) (upd B k (nI (zju x.1 x.2.1 y.1 y.2.1 ab k)))) (q + 2) C) t) (fun v w1 => v = none ∧ ∃ I' A', w1 = zWd I' A' t ∧ zCS I' A' q (zJo x y ab) ∧ zOn q I A I' A') := fun z hz => by
          refine bX5_unite_76 _ _ _ _ _ _ _ _ _ _ ?_
          rw [zb_or, ← hz]
          exact ⟨_, wC _ _, next⟩
        rw [zB_if]
        cases ab
        · rw [if_neg (by decide)]
          exact go 0 e2
        · rw [if_pos rfl]
          refine zvRd K4.1.1.ob (v_all K4.1) (by decide) ?_
          have l3 := zmul8 hxy (a := 2 ^ y.1 - 1) (by have := Nat.one_le_two_pow (n := y.1); omega)
          rw [zb_shl (by omega) l3]
          exact go _ e2
  have k0 := key 0 (Nat.zero_le _) (A1 (q + 1)) (A1 (q + 2)) (fun j hj => absurd hj (Nat.not_lt_zero _))
  rw [zup_self, zup_self] at k0
  exact k0
end ZJ1
section ZJ2
variable {X : zX} {st : zSt} {x y z w4 : Int32}
theorem a_joins : zAc X MX11_joins MX12_joins [.int x, .int y, .int z, .int w4] st := by
  have no : (∀ I A t, zCI st I A → zEv X 15 0 0 MX11_joins [.ref 0, .int x, .int y, .int z, .int w4] (zWd I A t) (zQa st I A t (-2))) → (∀ I A t, zMIv st I A → zEv X 15 0 0 MX12_joins [.ref 98, .int x, .int y, .int z, .int w4] (zWd I A t) (zQb_ st I A t (-2))) → zAc X MX11_joins MX12_joins [.int x, .int y, .int z, .int w4] st := fun h1 h2 => zAc.mk (-2) st 15 15 (by decide) (by decide) h1 h2
  rcases zslot st.1 x with ⟨s, hs⟩ | hn
  · rcases zslot st.1 y with ⟨s2, hs2⟩ | hn2
    · by_cases hz : zin 2 z = true
      · by_cases hw : zin 3 w4 = true
        · have hw2 : decide (¬ w4 < 0 ∧ ¬ nI 2 < w4) = true := by
            rw [zin_i (m := 2) (by decide)]
            exact hw
          obtain ⟨b, hb, rfl⟩ := zin_e.mp hz
          obtain ⟨to, hto, rfl⟩ := zin_e.mp hw
          by_cases hxy : (st.1 s).1 + (st.1 s2).1 ≤ 8
          · refine zAc.mk (nI ((st.1 s).1 + (st.1 s2).1)) (zPd st to (zJo (st.1 s) (st.1 s2) (decide (b = 1)))) 15 15 (by decide) (by decide) (fun I A t hC => ?_) (fun I A t hM => ?_)
            · have h0 := hC.ns hs.1
              have h02 := hC.ns hs2.1
              have h3 := hs.1
              have h32 := hs2.1
              have hv := hC.2.1 s hs.1
              have hv2 := hC.2.1 s2 hs2.1
              have hvy := zVl_Jo hv hv2 (decide (b = 1)) hxy
              refine eX11_joins _ _ _ _ _ (bX11_joins_0 _ _ _ _ _ (zvO1 ob_0 (v_orderIn1 hC.1 hs) (by decide) (zvO1 ob_0 (v_orderIn1 hC.1 hs2) (by decide) (zcRd (v_isBit _) (by decide) ?_))))
              rw [zB_t hz]
              refine zcRd (v_isSlot _) (by decide) ?_
              rw [zB_t hw]
              refine zvRd h0.1.1.ob (v_size h0.1) (by decide) (zvRd h02.1.1.ob (v_size h02.1) (by decide) ?_)
              rw [nI_add]
              show if nI _ ≤ nI 8 then _ else _
              rw [zi_le (by omega) (by decide), if_pos hxy]
              refine ⟨_, fr_0_1.rd, ?_⟩
              have go := bX11_joins_79 (X := X) (d := 15) (kc := 0) (ks := 0) (w := zWd I A t) (Q := zQa (zPd st to (zJo (st.1 s) (st.1 s2) (decide (b = 1)))) I A t (nI ((st.1 s).1 + (st.1 s2).1))) 0 (nI to) (zB (decide (b = 1))) (2 + 5 * s2) (2 + 5 * s) 17 (by
                refine zvV q17.ob (v_unite q17 h0 h02 (by omega) (by omega) _ hxy) (by decide) ?_
                rintro w1 ⟨I1, A1, rfl, g1, g2⟩
                refine zvB (M := MX11_joins) hC (g2.hi q17) (g2.kp.ci hC) g1 hvy hto (by decide) (fun I3 A3 k1 k2 k3 => ?_)
                exact ⟨_, fr_0_1.rd, zvRd q17.ob (v_size k1.1) (by decide) ⟨rfl, I3, A3, rfl, k2, k3⟩⟩)
              rcases (show b = 0 ∨ b = 1 by omega) with rfl | rfl
              · rw [if_neg (by decide)]
                exact go
              · rw [if_pos (by decide)]
                exact go
            · have h1 := m_ord1 (X := X) (I := I) (t := t) hM.m3 hs
              have h2 := m_ord1 (X := X) (I := I) (t := t) hM.m3 hs2
              obtain ⟨s3, rfl, s0⟩ := hs
              obtain ⟨s23, rfl, s20⟩ := hs2
              have H : zMR A s (st.1 s).1 (st.1 s).2.1 (st.1 s).2.2.1 (st.1 s).2.2.2 := hM.m3 s s3
              have H2 : zMR A s2 (st.1 s2).1 (st.1 s2).2.1 (st.1 s2).2.2.1 (st.1 s2).2.2.2 := hM.m3 s2 s23
              have hv := hM.2.1 s s3
              have hv2 := hM.2.1 s2 s23
              have hvy := zVl_Jo hv hv2 (decide (b = 1)) hxy
              have h8 := hv.1.1
              refine eX12_joins _ _ _ _ _ (bX12_joins_0 _ _ _ _ _ (zvRd ob_98 h1 (by decide) ?_))
              rw [if_neg (by decide)]
              refine zvRd ob_98 h2 (by decide) ?_
              rw [if_neg (by decide)]
              refine zcRd (m_inC (m := 1) _ (by decide) (by decide)) (by decide) ?_
              rw [zB_t hz]
              refine zcRd (m_isSlot _) (by decide) ?_
              rw [zB_t hw2]
              refine zvRd ob_98 (m_many H) (by decide) (zvRd ob_98 (m_many H2) (by decide) ?_)
              rw [nI_add]
              show if nI _ ≤ nI 8 then _ else _
              rw [zi_le (by omega) (by decide), if_pos hxy]
              refine zvV ob_98 m_remembers (by decide) ?_
              rintro w1 ⟨W, rfl, hW⟩
              generalize hju : zju (st.1 s).1 (st.1 s).2.1 (st.1 s2).1 (st.1 s2).2.1 (decide (b = 1)) = ju at *
              have hJo : zJo (st.1 s) (st.1 s2) (decide (b = 1)) = ((st.1 s).1 + (st.1 s2).1, ju, 0, fun _ _ => 0) := by
                unfold zJo
                rw [hju]
              -- lay
              have lay : ∀ k, k ≤ (st.1 s).1 + (st.1 s2).1 → ∀ D T : Nat → Int32, (∀ a, a < (st.1 s).1 + (st.1 s2).1 → T a = nI (ju a)) → (D (58 * to) = nI ((st.1 s).1 + (st.1 s2).1)) → (∀ a, a < k → D (58 * to + 1 + a) = nI (ju a)) → (∀ j, 58 * to + 1 + k ≤ j → j < 58 * to + 58 → D j = 0) → (∀ j, (j < 58 * to ∨ 58 * to + 58 ≤ j) → D j = A 99 j) → zRn X 15 0 0 MX12_joins 161 [some (.ref 98), none, none, none, some (.int (nI to)), some (.int (nI (st.1 s).1)), some (.int (nI (st.1 s2).1)), some (.int (nI k))] [] (zWd I (zMW A W D T) t) (zQb_ (zPd st to (zJo (st.1 s) (st.1 s2) (decide (b = 1)))) I A t (nI ((st.1 s).1 + (st.1 s2).1))) := by
                refine zdown ?_ ?_
                · intro D T hT d0 d1 d2 d3
                  refine bX12_joins_161 _ _ _ _ _ ?_
                  rw [nI_add, if_pos (Int32.le_refl _)]
                  refine zvD hto hM.2.1 hvy (zMW_X hM W D T) (zMW_W hM hW D T) (zSg_put (A := A) hM.1 (fun k hk => ?_) (fun j hj => by rw [zMW_99, d3 j hj])) (zMW_L I A W D T) _ (by decide)
                  rw [zMW_99, hJo]
                  refine zcell hk (P := fun k => D (58 * to + k) = nI (zEn ((st.1 s).1 + (st.1 s2).1, ju, 0, fun _ _ => 0) k)) d0 (fun a ha => ?_) ?_ (fun r i hr hi => ?_)
                  · rw [zEn_u ha, show 58 * to + (1 + a) = 58 * to + 1 + a by omega]
                    show _ = nI (ju a)
                    rcases Nat.lt_or_ge a ((st.1 s).1 + (st.1 s2).1) with z | z
                    · exact d1 a z
                    · rw [d2 _ (by omega) (by omega)]
                      have : ju a = 0 := by
                        have := hvy.1.2.2.1 a
                        rw [hJo] at this
                        exact this z
                      rw [this]
                      rfl
                  · rw [d2 _ (by omega) (by omega)]
                    rfl
                  · rw [zEn_h hi, d2 _ (by omega) (by omega)]
                    rfl
                · intro k hk ih D T hT d0 d1 d2 d3
                  refine bX12_joins_161 _ _ _ _ _ ?_
                  rw [nI_add, zi_le (by omega) (by omega), if_neg (by omega)]
                  refine ⟨_, fr_98_25.rd, nI (ju k), ?_, ?_⟩
                  · rw [ar_112.rd (by omega), zMW_112, hT k hk]
                  · have e1 : (1 : Int32) + nI k = nI (1 + k) := by
                      show nI 1 + nI k = _
                      rw [nI_add]
                    rw [e1]
                    refine zvV ob_98 (m_lays hto (k := 1 + k) (by omega) _) (by decide) ?_
                    rintro w3 rfl
                    rw [zMW_99, zMW_s99, nI_1]
                    refine ih _ T hT ?_ (fun a ha => ?_) (fun j h1 h2 => ?_) (fun j hj => ?_)
                    · rw [upd_ne _ _ (by omega)]
                      exact d0
                    · by_cases e : a = k
                      · rw [e, show 58 * to + 1 + k = 58 * to + (1 + k) by omega, upd_eq]
                      · rw [upd_ne _ _ (by omega)]
                        exact d1 a (by omega)
                    · rw [upd_ne _ _ (by omega)]
                      exact d2 j (by omega) h2
                    · rw [upd_ne _ _ (by omega)]
                      exact d3 j hj
              have turn : ∀ k, k ≤ (st.1 s).1 + (st.1 s2).1 → ∀ T : Nat → Int32, (∀ a, a < k → T a = nI (ju a)) → zRn X 15 0 0 MX12_joins 71 [some (.ref 98), some (.int (nI s)), some (.int (nI s2)), some (.int (nI b)), some (.int (nI to)), some (.int (nI (st.1 s).1)), some (.int (nI (st.1 s2).1)), some (.int (nI k))] [] (zWd I (zMW A W (A 99) T) t) (zQb_ (zPd st to (zJo (st.1 s) (st.1 s2) (decide (b = 1)))) I A t (nI ((st.1 s).1 + (st.1 s2).1))) := by
                have e1 : va_up (va_up A 100 W) 99 (A 99) = va_up A 100 W := by
                  have : A 99 = va_up A 100 W 99 := by rw [zup_ne (by decide)]
                  rw [this, zup_self]
                have HT : ∀ T, zMR (zMW A W (A 99) T) s (st.1 s).1 (st.1 s).2.1 (st.1 s).2.2.1 (st.1 s).2.2.2 := fun T => by
                  unfold zMW
                  rw [e1]
                  exact (H.up (p := 100) (by decide)).up (p := 112) (by decide)
                have HT2 : ∀ T, zMR (zMW A W (A 99) T) s2 (st.1 s2).1 (st.1 s2).2.1 (st.1 s2).2.2.1 (st.1 s2).2.2.2 := fun T => by
                  unfold zMW
                  rw [e1]
                  exact (H2.up (p := 100) (by decide)).up (p := 112) (by decide)
                refine zdown ?_ ?_
                · intro T hT
                  refine bX12_joins_71 _ _ _ _ _ _ _ _ ?_
                  rw [nI_add, if_pos (Int32.le_refl _)]
                  refine zvV ob_98 (m_empties hto) (by decide) ?_
                  rintro w2 ⟨D, rfl, d1, d2⟩
                  rw [zMW_99] at d2
                  rw [zMW_s99]
                  refine zvV ob_98 (m_lays hto (k := 0) (by decide) _) (by decide) ?_
                  rintro w3 rfl
                  rw [zMW_99, zMW_s99, Nat.add_zero]
                  refine lay 0 (Nat.zero_le _) _ T hT (upd_eq _ _ _) (fun a ha => absurd ha (Nat.not_lt_zero _)) (fun j h1 h2 => ?_) (fun j hj => ?_)
                  · rw [upd_ne _ _ (by omega)]
                    have := d1 (j - 58 * to) (by omega)
                    rw [show 58 * to + (j - 58 * to) = j by omega] at this
                    exact this
                  · rw [upd_ne _ _ (by omega)]
                    exact d2 j hj
                · intro k hk ih T hT
                  have next : zRn X 15 0 0 MX12_joins 133 [some (.ref 98), some (.int (nI s)), some (.int (nI s2)), some (.int (nI b)), some (.int (nI to)), some (.int (nI (st.1 s).1)), some (.int (nI (st.1 s2).1)), some (.int (nI k))] [.int (nI (ju k)), .int (nI k), .ref 112] (zWd I (zMW A W (A 99) T) t) (zQb_ (zPd st to (zJo (st.1 s) (st.1 s2) (decide (b = 1)))) I A t (nI ((st.1 s).1 + (st.1 s2).1))) := by
                    refine bX12_joins_133 _ _ _ _ _ _ _ _ _ _ _ ⟨_, ar_112.wr (by omega), ?_⟩
                    rw [zMW_112, zMW_s112, nI_1]
                    refine ih _ (fun a ha => ?_)
                    by_cases e : a = k
                    · rw [e, upd_eq]
                    · rw [upd_ne _ _ e]
                      exact hT a (by omega)
                  refine bX12_joins_71 _ _ _ _ _ _ _ _ ?_
                  rw [nI_add, zi_le (by omega) (by omega), if_neg (by omega)]
                  refine ⟨_, fr_98_25.rd, ?_⟩
                  rw [zi_le (by omega) (by omega)]
                  by_cases c : (st.1 s).1 ≤ k
                  · rw [if_pos c, pk_sub c]
                    have l1 := zmul8 hxy (hv2.1.2.1 (k - (st.1 s).1))
                    have ej : ju k = (st.1 s2).2.1 (k - (st.1 s).1) * 2 ^ (st.1 s).1 ||| (if decide (b = 1) = true then 2 ^ (st.1 s).1 - 1 else 0) := by
                      rw [← hju]
                      unfold zju
                      rw [if_neg (by omega), if_pos hk]
                    refine zvRd ob_98 (m_under (HT2 T) (by omega)) (by decide) ?_
                    rw [zb_shl (by omega) l1]
                    have go : ∀ z : Nat, ju k = (st.1 s2).2.1 (k - (st.1 s).1) * 2 ^ (st.1 s).1 ||| z → zRn X 15 0 0 MX12_joins 132 [some (.ref 98), some (.int (nI s)), some (.int (nI s2)), some (.int (nI b)), some (.int (nI to)), some (.int (nI (st.1 s).1)), some (.int (nI (st.1 s2).1)), some (.int (nI k))] [.int (nI z), .int (nI ((st.1 s2).2.1 (k - (st.1 s).1) * 2 ^ (st.1 s).1)), .int (nI k), .ref 112] (zWd I (zMW A W (A 99) T) t) (zQb_ (zPd st to (zJo (st.1 s) (st.1 s2) (decide (b = 1)))) I A t (nI ((st.1 s).1 + (st.1 s2).1))) := fun z hz => by
                      refine bX12_joins_132 _ _ _ _ _ _ _ _ _ _ _ _ ?_
                      rw [zb_or, ← hz]
                      exact next
                    rcases (show b = 0 ∨ b = 1 by omega) with rfl | rfl
                    · rw [if_neg (by decide)]
                      exact go 0 ej
                    · rw [if_pos (by decide), zb_1 _ (by omega), nI_p Nat.one_le_two_pow]
                      exact go _ ej
                  · rw [if_neg c]
                    have ej : ju k = (st.1 s).2.1 k := by
                      rw [← hju]
                      unfold zju
                      rw [if_pos (by omega)]
                    refine zvRd ob_98 (m_under (HT T) (by omega)) (by decide) ?_
                    rw [← ej]
                    exact next
              have k0 := turn 0 (Nat.zero_le _) (A 112) (fun a ha => absurd ha (Nat.not_lt_zero _))
              rw [zMW_id] at k0
              exact k0
          · refine zAc.mk (-5) st 15 15 (by decide) (by decide) (fun I A t hC => ?_) (fun I A t hM => ?_)
            · have h0 := hC.ns hs.1
              have h02 := hC.ns hs2.1
              have h8 := h0.1.n8
              have h82 := h02.1.n8
              refine eX11_joins _ _ _ _ _ (bX11_joins_0 _ _ _ _ _ (zvO1 ob_0 (v_orderIn1 hC.1 hs) (by decide) (zvO1 ob_0 (v_orderIn1 hC.1 hs2) (by decide) (zcRd (v_isBit _) (by decide) ?_))))
              rw [zB_t hz]
              refine zcRd (v_isSlot _) (by decide) ?_
              rw [zB_t hw]
              refine zvRd h0.1.1.ob (v_size h0.1) (by decide) (zvRd h02.1.1.ob (v_size h02.1) (by decide) ?_)
              rw [nI_add]
              show if nI _ ≤ nI 8 then _ else _
              rw [zi_le (by omega) (by decide), if_neg hxy]
              exact zQa.id hC
            · have h1 := m_ord1 (X := X) (I := I) (t := t) hM.m3 hs
              have h2 := m_ord1 (X := X) (I := I) (t := t) hM.m3 hs2
              obtain ⟨s3, rfl, s0⟩ := hs
              obtain ⟨s23, rfl, s20⟩ := hs2
              have H : zMR A s (st.1 s).1 (st.1 s).2.1 (st.1 s).2.2.1 (st.1 s).2.2.2 := hM.m3 s s3
              have H2 : zMR A s2 (st.1 s2).1 (st.1 s2).2.1 (st.1 s2).2.2.1 (st.1 s2).2.2.2 := hM.m3 s2 s23
              have h8 := H.2.1.1
              have h82 := H2.2.1.1
              refine eX12_joins _ _ _ _ _ (bX12_joins_0 _ _ _ _ _ (zvRd ob_98 h1 (by decide) ?_))
              rw [if_neg (by decide)]
              refine zvRd ob_98 h2 (by decide) ?_
              rw [if_neg (by decide)]
              refine zcRd (m_inC (m := 1) _ (by decide) (by decide)) (by decide) ?_
              rw [zB_t hz]
              refine zcRd (m_isSlot _) (by decide) ?_
              rw [zB_t hw2]
              refine zvRd ob_98 (m_many H) (by decide) (zvRd ob_98 (m_many H2) (by decide) ?_)
              rw [nI_add]
              show if nI _ ≤ nI 8 then _ else _
              rw [zi_le (by omega) (by decide), if_neg hxy]
              exact zQb_.id hM
        · rw [Bool.not_eq_true] at hw
          have hw2 : decide (¬ w4 < 0 ∧ ¬ nI 2 < w4) = false := by
            rw [zin_i (m := 2) (by decide)]
            exact hw
          refine no (fun I A t hC => ?_) (fun I A t hM => ?_)
          · refine eX11_joins _ _ _ _ _ (bX11_joins_0 _ _ _ _ _ (zvO1 ob_0 (v_orderIn1 hC.1 hs) (by decide) (zvO1 ob_0 (v_orderIn1 hC.1 hs2) (by decide) (zcRd (v_isBit _) (by decide) ?_))))
            rw [zB_t hz]
            refine zcRd (v_isSlot _) (by decide) ?_
            rw [zB_f hw]
            exact zQa.id hC
          · refine eX12_joins _ _ _ _ _ (bX12_joins_0 _ _ _ _ _ (zvRd ob_98 (m_ord1 hM.m3 hs) (by decide) ?_))
            rw [if_neg (by decide)]
            refine zvRd ob_98 (m_ord1 hM.m3 hs2) (by decide) ?_
            rw [if_neg (by decide)]
            refine zcRd (m_inC (m := 1) _ (by decide) (by decide)) (by decide) ?_
            rw [zB_t hz]
            refine zcRd (m_isSlot _) (by decide) ?_
            rw [zB_f hw2]
            exact zQb_.id hM
      · rw [Bool.not_eq_true] at hz
        refine no (fun I A t hC => ?_) (fun I A t hM => ?_)
        · refine eX11_joins _ _ _ _ _ (bX11_joins_0 _ _ _ _ _ (zvO1 ob_0 (v_orderIn1 hC.1 hs) (by decide) (zvO1 ob_0 (v_orderIn1 hC.1 hs2) (by decide) (zcRd (v_isBit _) (by decide) ?_))))
          rw [zB_f hz]
          exact zQa.id hC
        · refine eX12_joins _ _ _ _ _ (bX12_joins_0 _ _ _ _ _ (zvRd ob_98 (m_ord1 hM.m3 hs) (by decide) ?_))
          rw [if_neg (by decide)]
          refine zvRd ob_98 (m_ord1 hM.m3 hs2) (by decide) ?_
          rw [if_neg (by decide)]
          refine zcRd (m_inC (m := 1) _ (by decide) (by decide)) (by decide) ?_
          rw [zB_f hz]
          exact zQb_.id hM
    · refine no (fun I A t hC => ?_) (fun I A t hM => ?_)
      · exact eX11_joins _ _ _ _ _ (bX11_joins_0 _ _ _ _ _ (zvO1 ob_0 (v_orderIn1 hC.1 hs) (by decide) (zvO0 ob_0 (v_orderIn0 hC.1 hn2) (by decide) (zQa.id hC))))
      · refine eX12_joins _ _ _ _ _ (bX12_joins_0 _ _ _ _ _ (zvRd ob_98 (m_ord1 hM.m3 hs) (by decide) ?_))
        rw [if_neg (by decide)]
        refine zvRd ob_98 (m_ord0 hM.m3 hn2) (by decide) ?_
        rw [if_pos rfl]
        exact zQb_.id hM
  · refine no (fun I A t hC => ?_) (fun I A t hM => ?_)
    · rcases zslot st.1 y with ⟨s2, hs2⟩ | hn2
      · exact eX11_joins _ _ _ _ _ (bX11_joins_0 _ _ _ _ _ (zvO0 ob_0 (v_orderIn0 hC.1 hn) (by decide) (zvO1 ob_0 (v_orderIn1 hC.1 hs2) (by decide) (zQa.id hC))))
      · exact eX11_joins _ _ _ _ _ (bX11_joins_0 _ _ _ _ _ (zvO0 ob_0 (v_orderIn0 hC.1 hn) (by decide) (zvO0 ob_0 (v_orderIn0 hC.1 hn2) (by decide) (zQa.id hC))))
    · refine eX12_joins _ _ _ _ _ (bX12_joins_0 _ _ _ _ _ (zvRd ob_98 (m_ord0 hM.m3 hn) (by decide) ?_))
      rw [if_pos rfl]
      exact zQb_.id hM
end ZJ2
