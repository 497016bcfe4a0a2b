/-! ===== drops, takes, puts, cuts ===== -/
theorem nI_p {n : Nat} (h : 1 ≤ n) : nI n - 1 = nI (n - 1) := pk_sub h
/-- nothing -/
def zNo : zSl := (0, fun _ => 0, 0, fun _ _ => 0)
/-- m things all free -/
def zFe (m : Nat) : zSl := (m, fun _ => 0, 0, fun _ _ => 0)
theorem zPo_0 {m : Nat} (h : m ≤ 8) : zPo m (fun _ => 0) := ⟨h, fun _ => Nat.two_pow_pos m, fun _ _ => rfl, fun a => by simp [zlt], fun a b c h1 => by simp [zlt] at h1⟩
theorem zHo_0 (m : Nat) : zHo m 0 (fun _ _ => 0) := ⟨Nat.zero_le _, fun r i hr => absurd hr (Nat.not_lt_zero _), fun r i j hr => absurd hr (Nat.not_lt_zero _), fun _ _ _ => rfl⟩
theorem zVl_Fe {m : Nat} (h : m ≤ 8) : zVl (zFe m) := ⟨zPo_0 h, zHo_0 m, fun _ => rfl⟩
theorem zVl_no : zVl zNo := zVl_Fe (m := 0) (by decide)
theorem zVl_none {x : zSl} (h : zVl x) (h0 : x.1 = 0) : x = zNo := zVl_ext h zVl_no h0 (fun b hb => by omega) (h.2.2 h0) (fun r i _ hi => by omega)
theorem zov_0 (m a : Nat) : zov m (fun _ => 0) a = 0 := zext (fun i => by
  unfold zov
  rw [zmk_bit]
  simp)
section ZA2
variable {X : zX} {I A : zF2} {t : zW} {q n R : Nat} {u : Nat → Nat} {h : Nat → Nat → Nat} {x y : zSl}
theorem v_clear (hq : zOq q) : zEv X 0 0 0 MX8_clear [.ref (q + 3)] (zWd I A t) (fun v w1 => v = none ∧ w1 = zWd (va_up I (q + 3) (upd (I (q + 3)) 1 0)) A t) := eX8_clear _ (bX8_clear_0 _ ⟨_, hq.rsz.wr, rfl, rfl⟩)
theorem v_begin (hq : zOq q) {m : Nat} (hm : m ≤ 8) : zEv X 1 0 0 MX5_begin [.ref q, .int (nI m)] (zWd I A t) (fun v w1 => v = none ∧ ∃ I' A', w1 = zWd I' A' t ∧ zCS I' A' q (zFe m) ∧ zOn q I A I' A') := by
  refine eX5_begin _ _ (bX5_begin_0 _ _ ?_)
  rw [if_neg (nI_pos (by omega))]
  show if nI 8 < nI m then _ else _
  rw [zi_lt (by decide) (by omega), if_neg (by omega)]
  refine bX5_begin_16 _ _ _ ⟨_, hq.sz.wr, _, hq.rw.rd, zvV hq.rob (v_clear hq) (by decide) ?_⟩
  rintro w1 rfl
  have key : ∀ k, k ≤ 8 → ∀ B C : Nat → Int32, (∀ j, j < k → B j = 0 ∧ C j = 0) → zRn X 1 0 0 MX5_begin 28 [some (.ref q), none, some (.int (nI k))] [] (zWd (va_up (va_up I q (upd (I q) 3 (nI m))) (q + 3) (upd (va_up I q (upd (I q) 3 (nI m)) (q + 3)) 1 0)) (va_up (va_up A (q + 1) B) (q + 2) C) t) (fun v w1 => v = none ∧ ∃ I' A', w1 = zWd I' A' t ∧ zCS I' A' q (zFe m) ∧ zOn q I A I' A') := by
    refine zdown ?_ ?_
    · intro B C hBC
      refine bX5_begin_28 _ _ ?_
      rw [if_pos (by decide)]
      refine ⟨rfl, _, _, rfl, ⟨⟨hq, zPo_0 hm, ?_, fun b hb => ?_, fun b hb => ?_⟩, zHo_0 m, ?_, fun r i hr => absurd hr (Nat.not_lt_zero _)⟩, ((((zOn.refl q I A).f (p := q) (by omega)).f (p := q + 3) (by omega)).a (p := q + 1) (by omega)).a (p := q + 2) (by omega)⟩
      · rw [zup_ne (by omega), zup_eq, upd_eq]
        rfl
      · have hb : b < m := hb
        rw [zup_ne (by omega), zup_eq]
        exact (hBC b (by omega)).1
      · have hb : b < m := hb
        rw [zup_eq]
        have : zov (zFe m).1 (zFe m).2.1 b = 0 := zov_0 m b
        rw [this]
        exact (hBC b (by omega)).2
      · rw [zup_eq, upd_eq]
        rfl
    · intro k hk ih B C hBC
      refine bX5_begin_28 _ _ ?_
      show if nI 8 ≤ nI k then _ else _
      rw [zi_le (by decide) (by omega), if_neg (by omega)]
      refine ⟨_, hq.bl.rd, _, hq.bA.wr hk, _, hq.ab.rd, _, hq.aA.wr hk, ?_⟩
      have e1 : va_up (va_up (va_up (va_up A (q + 1) B) (q + 2) C) (q + 1) (upd (va_up (va_up A (q + 1) B) (q + 2) C (q + 1)) k 0)) (q + 2) (upd (va_up (va_up (va_up A (q + 1) B) (q + 2) C) (q + 1) (upd (va_up (va_up A (q + 1) B) (q + 2) C (q + 1)) k 0) (q + 2)) k 0) = va_up (va_up A (q + 1) (upd B k 0)) (q + 2) (upd C k 0) := by
        have a1 : va_up (va_up A (q + 1) B) (q + 2) C (q + 1) = B := by rw [zup_ne (by omega), zup_eq]
        rw [a1, zup_ne (show q + 2 ≠ q + 1 by omega), zup_eq, zup_comm _ (show q + 2 ≠ q + 1 by omega), bx_uu, bx_uu]
      rw [e1, nI_1]
      refine ih _ _ (fun j hj => ?_)
      by_cases e : j = k
      · rw [e, upd_eq, upd_eq]
        exact ⟨rfl, rfl⟩
      · rw [upd_ne _ _ e, upd_ne _ _ e]
        exact hBC j (by omega)
  have k0 := key 0 (Nat.zero_le _) (A (q + 1)) (A (q + 2)) (fun j hj => absurd hj (Nat.not_lt_zero _))
  rw [zup_self, zup_self] at k0
  exact k0
theorem v_rput (hq : zOq q) {r i : Nat} (hr : r < 6) (hi : i < 8) (z : Int32) : zEv X 1 0 0 MX8_put [.ref (q + 3), .int (nI r), .int (nI i), .int z] (zWd I A t) (fun v w1 => v = none ∧ w1 = zWd I (va_up A (q + 4) (upd (A (q + 4)) (8 * r + i) z)) t) := by
  refine eX8_put _ _ _ _ (bX8_put_0 _ _ _ _ (zcRd (v_isPlace hr hi) (by decide) ?_))
  rw [if_neg (by decide)]
  refine ⟨_, hq.rh.rd, zWd I (va_up A (q + 4) (upd (A (q + 4)) (8 * r + i) z)) t, ?_, rfl, rfl⟩
  show zsI _ _ (nI r * nI 8 + nI i) _ = _
  rw [pk_mul, nI_add, show r * 8 + i = 8 * r + i by omega, hq.hA.wr (by omega)]
theorem v_remove (hq : zOq q) (hR : R ≤ 6) (hI : I (q + 3) 1 = nI R) {r : Nat} (hr : r < R) : zEv X 2 0 0 MX8_remove [.ref (q + 3), .int (nI r)] (zWd I A t) (fun v w1 => v = none ∧ ∃ D, w1 = zWd (va_up I (q + 3) (upd (I (q + 3)) 1 (nI (R - 1)))) (va_up A (q + 4) D) t ∧ ∀ r' i, r' < R - 1 → i < 8 → D (8 * r' + i) = A (q + 4) (8 * (if r' < r then r' else r' + 1) + i)) := by
  have hhas : zRd X 0 MX8_has [.ref (q + 3), .int (nI r)] (zWd I A t) 1 := by
    refine eX8_has _ _ (bX8_has_0 _ _ ?_)
    rw [if_neg (nI_pos (by omega))]
    refine ⟨_, hq.rsz.rd, ?_⟩
    rw [hI, zi_le (by omega) (by omega), if_neg (by omega)]
    exact ⟨rfl, rfl⟩
  refine eX8_remove _ _ (bX8_remove_0 _ _ (zvRd hq.rob hhas (by decide) ?_))
  rw [if_neg (by decide), nI_1]
  have key : ∀ m, m ≤ R → r + 1 ≤ m → ∀ D : Nat → Int32, (∀ r' i, r' < m - 1 → i < 8 → D (8 * r' + i) = A (q + 4) (8 * (if r' < r then r' else r' + 1) + i)) → (∀ r' i, m ≤ r' → i < 8 → D (8 * r' + i) = A (q + 4) (8 * r' + i)) → zRn X 2 0 0 MX8_remove 13 [some (.ref (q + 3)), none, some (.int (nI m)), none] [] (zWd I (va_up A (q + 4) D) t) (fun v w1 => v = none ∧ ∃ D, w1 = zWd (va_up I (q + 3) (upd (I (q + 3)) 1 (nI (R - 1)))) (va_up A (q + 4) D) t ∧ ∀ r' i, r' < R - 1 → i < 8 → D (8 * r' + i) = A (q + 4) (8 * (if r' < r then r' else r' + 1) + i)) := by
    refine zdown ?_ ?_
    · intro _ D h1 _
      refine bX8_remove_13 _ _ ⟨_, hq.rsz.rd, ?_⟩
      rw [hI, if_pos (Int32.le_refl _)]
      refine ⟨_, hq.rsz.rd, _, hq.rsz.wr, rfl, D, ?_, h1⟩
      rw [hI]
      have e : nI R - 1 = nI (R - 1) := nI_p (by omega)
      rw [e]
    · intro m hm ih hrm D h1 h2
      refine bX8_remove_13 _ _ ⟨_, hq.rsz.rd, ?_⟩
      rw [hI, zi_le (by omega) (by omega), if_neg (by omega)]
      have em : nI m - 1 = nI (m - 1) := nI_p (by omega)
      have inner : ∀ i, i ≤ 8 → ∀ D : Nat → Int32, (∀ r' i, r' < m - 1 → i < 8 → D (8 * r' + i) = A (q + 4) (8 * (if r' < r then r' else r' + 1) + i)) → (∀ i', i' < i → D (8 * (m - 1) + i') = A (q + 4) (8 * m + i')) → (∀ r' i, m ≤ r' → i < 8 → D (8 * r' + i) = A (q + 4) (8 * r' + i)) → zRn X 2 0 0 MX8_remove 23 [some (.ref (q + 3)), none, some (.int (nI m)), some (.int (nI i))] [] (zWd I (va_up A (q + 4) D) t) (fun v w1 => v = none ∧ ∃ D, w1 = zWd (va_up I (q + 3) (upd (I (q + 3)) 1 (nI (R - 1)))) (va_up A (q + 4) D) t ∧ ∀ r' i, r' < R - 1 → i < 8 → D (8 * r' + i) = A (q + 4) (8 * (if r' < r then r' else r' + 1) + i)) := by
        refine zdown ?_ ?_
        · intro D g1 g2 g3
          refine bX8_remove_23 _ _ _ ?_
          rw [if_pos (by decide), nI_1]
          refine ih (by omega) D (fun r' i hr' hi => ?_) (fun r' i hr' hi => g3 r' i (by omega) hi)
          rcases Nat.lt_or_ge r' (m - 1) with z | z
          · exact g1 r' i z hi
          · have e : r' = m - 1 := by omega
            rw [if_neg (by omega), e, show m - 1 + 1 = m by omega]
            exact g2 i hi
        · intro i hi ihi D g1 g2 g3
          refine bX8_remove_23 _ _ _ ?_
          show if nI 8 ≤ nI i then _ else _
          rw [zi_le (by decide) (by omega), if_neg (by omega)]
          refine zvRd hq.rob (v_rget hq (by omega) hi) (by decide) ?_
          rw [em]
          refine zvV hq.rob (v_rput hq (by omega) hi _) (by decide) ?_
          rintro w1 rfl
          rw [zup_eq, bx_uu, nI_1]
          refine ihi _ (fun r' i' hr' hi' => ?_) (fun i' hi' => ?_) (fun r' i' hr' hi' => ?_)
          · rw [upd_ne _ _ (by omega)]
            exact g1 r' i' hr' hi'
          · by_cases e : i' = i
            · rw [e, upd_eq]
              exact g3 m i (Nat.le_refl _) hi
            · rw [upd_ne _ _ (by omega)]
              exact g2 i' (by omega)
          · rw [upd_ne _ _ (by omega)]
            exact g3 r' i' hr' hi'
      exact inner 0 (Nat.zero_le _) D h1 (fun i' hi' => absurd hi' (Nat.not_lt_zero _)) h2
  have k0 := key (r + 1) (by omega) (Nat.le_refl _) (A (q + 4)) (fun r' i hr' hi => by rw [if_pos (by omega)]) (fun _ _ _ _ => rfl)
  rw [zup_self] at k0
  exact k0
/-- one row less -/
def zTk (x : zSl) (r : Nat) : zSl := (x.1, x.2.1, x.2.2.1 - 1, fun r' i => if r' < r then x.2.2.2 r' i else x.2.2.2 (r' + 1) i)
theorem zVl_Tk {r : Nat} (hx : zVl x) (hr : r < x.2.2.1) : zVl (zTk x r) := by
  obtain ⟨h1, ⟨a1, a2, a3, a4⟩, h3⟩ := hx
  refine ⟨h1, ⟨by show x.2.2.1 - 1 ≤ 6; omega, fun r' i hr' hi => ?_, fun r' i j hr' hi hj => ?_, fun r' i hri => ?_⟩, fun h0 => by show x.2.2.1 - 1 = 0; have := h3 h0; omega⟩
  · have hr' : r' < x.2.2.1 - 1 := hr'
    show (if r' < r then x.2.2.2 r' i else x.2.2.2 (r' + 1) i) < x.1
    split
    · exact a2 r' i (by omega) hi
    · exact a2 (r' + 1) i (by omega) hi
  · have hr' : r' < x.2.2.1 - 1 := hr'
    show (if r' < r then x.2.2.2 r' i else x.2.2.2 (r' + 1) i) = (if r' < r then x.2.2.2 r' j else x.2.2.2 (r' + 1) j) → i = j
    split
    · exact a3 r' i j (by omega) hi hj
    · exact a3 (r' + 1) i j (by omega) hi hj
  · have hri : x.2.2.1 - 1 ≤ r' ∨ x.1 ≤ i := hri
    show (if r' < r then x.2.2.2 r' i else x.2.2.2 (r' + 1) i) = 0
    split
    · exact a4 r' i (by omega)
    · exact a4 (r' + 1) i (by omega)
theorem q17 : zOq 17 := Or.inl ⟨3, by decide, rfl⟩
theorem zCI.ns {st : zSt} (H : zCI st I A) {s : Nat} (hs : s < 3) : zCS I A (2 + 5 * s) (st.1 s) := H.1 s hs
end ZA2
section ZA3
variable {X : zX} {st : zSt} {x y z : Int32}
theorem zslot_no (hn : ∀ s, ¬ zHas st.1 x s) {s : Nat} (hs : s < 3) (e : x = nI s) : (st.1 s).1 = 0 := by
  rcases Nat.eq_zero_or_pos (st.1 s).1 with h | h
  · exact h
  · exact absurd ⟨hs, e, h⟩ (hn s)
theorem a_drops : zAc X MX11_drops MX12_drops [.int x] st := by
  by_cases hx : zin 3 x = true
  · obtain ⟨s, hs, rfl⟩ := zin_e.mp hx
    have hx2 : decide (¬ nI s < 0 ∧ ¬ nI 2 < nI s) = true := by
      rw [zin_i (m := 2) (by decide)]
      exact hx
    rcases zslot st.1 (nI s) with ⟨s', hs'⟩ | hn
    · have e : s' = s := by
        have := (nI_eq (by omega) (by have := hs'.1; omega)).mp hs'.2.1
        exact this.symm
      subst e
      refine zAc.mk 1 (zPu st s' zNo) 6 6 (by decide) (by decide) (fun I A t hC => ?_) (fun I A t hM => ?_)
      · refine eX11_drops _ _ (bX11_drops_0 _ _ (zcRd (v_isSlot _) (by decide) ?_))
        rw [zB_t hx]
        refine zvO1 ob_0 (v_orderIn1 hC.1 hs') (by decide) (bX11_drops_23 _ _ _ ⟨_, fr_0_1.rd, zvV q17.ob (v_begin (m := 0) q17 (by decide)) (by decide) ?_⟩)
        rintro w1 ⟨I1, A1, rfl, g1, g2⟩
        have hC1 := g2.kp.ci hC
        refine zvV ob_0 (v_become hC1 g1 (zVl_Fe (by decide)) hs) (by decide) ?_
        rintro w2 ⟨I2, A2, rfl, k1, k2, k3⟩
        refine zcRd (v_bit true) (by decide) ⟨rfl, I2, A2, rfl, ?_, (g2.kp.pm).trans k2.pm⟩
        rcases k3 with ⟨e, -⟩ | ⟨-, k3⟩
        · have : (st.1 s').1 = 0 := by rw [e]; rfl
          have := hs'.2.2
          omega
        · exact k3
      · refine eX12_drops _ _ (bX12_drops_0 _ _ (zcRd (m_isSlot _) (by decide) ?_))
        rw [zB_t hx2]
        refine zvRd ob_98 (m_ord1 hM.m3 hs') (by decide) ?_
        rw [if_neg (by decide)]
        refine zvV ob_98 m_remembers (by decide) ?_
        rintro w1 ⟨W, rfl, hW⟩
        refine zvV ob_98 (m_empties hs) (by decide) ?_
        rintro w2 ⟨D, rfl, d1, d2⟩
        have hW2 : ∀ k, k < 174 → va_up (va_up A 100 W) 99 D 100 k = nI (zEs st.1 k) := fun k hk => by
          rw [zup_ne (by decide), zup_eq, hW k hk, hM.1 k hk]
        have hX : zMX st.2.1 st.2.2.1 st.2.2.2.1 st.2.2.2.2.1 st.2.2.2.2.2 I (va_up (va_up A 100 W) 99 D) := hM.2.2.same (fun p hp => by rw [zup_ne (by omega), zup_ne (by omega)]) (fun _ _ => rfl)
        refine zvI1 ob_98 (m_keeps hX hM.2.1 hW2 1) (by decide) ?_
        rintro w3 ⟨c, K, rfl, hK⟩
        refine ⟨rfl, _, _, rfl, zMI_push hM zVl_no (zSg_put (A := A) hM.1 (fun k hk => ?_) (fun j hj => ?_)) hK, (((((zLoE.refl I A).a (p := 100) (by decide)).a (p := 99) (by decide)).a (p := 101) (by decide)).f (p := 98) (by decide)).pc⟩
        · rw [zup_eq, d1 k hk]
          have : zEn zNo k = 0 := by
            unfold zEn
            split
            · rfl
            · split
              · rfl
              · split <;> rfl
          rw [this]
          rfl
        · rw [zup_eq, d2 j hj, zup_ne (by decide)]
    · have h0 : (st.1 s).1 = 0 := zslot_no hn hs rfl
      refine zAc.mk 0 st 6 6 (by decide) (by decide) (fun I A t hC => ?_) (fun I A t hM => ?_)
      · refine eX11_drops _ _ (bX11_drops_0 _ _ (zcRd (v_isSlot _) (by decide) ?_))
        rw [zB_t hx]
        refine zvO0 ob_0 (v_orderIn0 hC.1 hn) (by decide) (bX11_drops_23 _ _ _ ⟨_, fr_0_1.rd, zvV q17.ob (v_begin (m := 0) q17 (by decide)) (by decide) ?_⟩)
        rintro w1 ⟨I1, A1, rfl, g1, g2⟩
        have hC1 := g2.kp.ci hC
        refine zvV ob_0 (v_become hC1 g1 (zVl_Fe (by decide)) hs) (by decide) ?_
        rintro w2 ⟨I2, A2, rfl, k1, k2, k3⟩
        refine zcRd (v_bit false) (by decide) ⟨rfl, I2, A2, rfl, ?_, (g2.kp.pm).trans k2.pm⟩
        rcases k3 with ⟨-, k3⟩ | ⟨e, -⟩
        · exact k3
        · exact absurd (zVl_none (hC.2.1 s hs) h0) e
      · refine eX12_drops _ _ (bX12_drops_0 _ _ (zcRd (m_isSlot _) (by decide) ?_))
        rw [zB_t hx2]
        refine zvRd ob_98 (m_ord0 hM.m3 hn) (by decide) ?_
        rw [if_pos rfl]
        exact zQb_.id hM
  · rw [Bool.not_eq_true] at hx
    have hx2 : decide (¬ x < 0 ∧ ¬ nI 2 < x) = false := by
      rw [zin_i (m := 2) (by decide)]
      exact hx
    refine zAc.mk (-2) st 6 6 (by decide) (by decide) (fun I A t hC => ?_) (fun I A t hM => ?_)
    · refine eX11_drops _ _ (bX11_drops_0 _ _ (zcRd (v_isSlot _) (by decide) ?_))
      rw [zB_f hx]
      exact zQa.id hC
    · refine eX12_drops _ _ (bX12_drops_0 _ _ (zcRd (m_isSlot _) (by decide) ?_))
      rw [zB_f hx2]
      exact zQb_.id hM
/-- the class's side of an act: next is copied, made, becomes -/
theorem zCS_rows {I A : zF2} {q : Nat} {x : zSl} {c : Int32} {D : Nat → Int32} {R : Nat} {h : Nat → Nat → Nat} (H : zCS I A q x) (hH : zHo x.1 R h) (hc : c = nI R) (hD : ∀ r i, r < R → i < x.1 → D (8 * r + i) = nI (h r i)) : zCS (va_up I (q + 3) (upd (I (q + 3)) 1 c)) (va_up A (q + 4) D) q (x.1, x.2.1, R, h) := by
  obtain ⟨⟨h1, h2, h3, h4, h5⟩, -⟩ := H
  refine ⟨⟨h1, h2, by rw [zup_ne (by omega)]; exact h3, fun b hb => by rw [zup_ne (by omega)]; exact h4 b hb, fun b hb => by rw [zup_ne (by omega)]; exact h5 b hb⟩, hH, by rw [zup_eq, upd_eq]; exact hc, fun r i hr hi => by rw [zup_eq]; exact hD r i hr hi⟩
theorem a_takes : zAc X MX11_takes MX12_takes [.int x, .int y] st := by
  rcases zslot st.1 x with ⟨s, hs⟩ | hn
  · by_cases hy : zin (st.1 s).2.2.1 y = true
    · obtain ⟨r, hr, rfl⟩ := zin_e.mp hy
      refine zAc.mk (nI ((st.1 s).2.2.1 - 1)) (zPu st s (zTk (st.1 s) r)) 6 6 (by decide) (by decide) (fun I A t hC => ?_) (fun I A t hM => ?_)
      · have hsl := hC.ns hs.1
        have hv := hC.2.1 s hs.1
        have h6 := hv.2.1.1
        have h8 := hv.1.1
        refine eX11_takes _ _ _ (bX11_takes_0 _ _ _ (zvO1 ob_0 (v_orderWithRow2 hC.1 hs hr) (by decide) ⟨_, fr_0_1.rd, zvV q17.ob (v_copyFrom q17 (by have := hs.1; omega) hsl) (by decide) ?_⟩))
        rintro w1 ⟨I1, A1, rfl, g1, g2⟩
        refine ⟨_, fr_0_1.rd, zvRf q17.ob (v_rowsOf q17) (by decide) (zvV q17.rob (v_remove q17 h6 g1.2.2.1 hr) (by decide) ?_)⟩
        rintro w2 ⟨D, rfl, hD⟩
        have hT : zCS (va_up I1 (17 + 3) (upd (I1 (17 + 3)) 1 (nI ((st.1 s).2.2.1 - 1)))) (va_up A1 (17 + 4) D) 17 (zTk (st.1 s) r) := zCS_rows g1 (zVl_Tk hv hr).2.1 rfl (fun r' i hr' hi => by
          have hr' : r' < (st.1 s).2.2.1 - 1 := hr'
          rw [hD r' i hr' (by omega)]
          show _ = nI (if r' < r then (st.1 s).2.2.2 r' i else (st.1 s).2.2.2 (r' + 1) i)
          by_cases c : r' < r
          · rw [if_pos c, if_pos c]
            exact g1.2.2.2 r' i (by omega) hi
          · rw [if_neg c, if_neg c]
            exact g1.2.2.2 (r' + 1) i (by omega) hi)
        have g3 : zOn 17 I A (va_up I1 (17 + 3) (upd (I1 (17 + 3)) 1 (nI ((st.1 s).2.2.1 - 1)))) (va_up A1 (17 + 4) D) := (g2.f (p := 17 + 3) (by omega)).a (p := 17 + 4) (by omega)
        have hC1 := g3.kp.ci hC
        have hx := hs.2.1
        rw [hx]
        refine zvV ob_0 (v_become hC1 hT (zVl_Tk hv hr) hs.1) (by decide) ?_
        rintro w3 ⟨I3, A3, rfl, k1, k2, k3⟩
        have hsz := v_rsize (X := X) (I := I3) (A := A3) (t := t) q17
        rw [k1.2.2.1] at hsz
        refine ⟨_, fr_0_1.rd, zvRf q17.ob (v_rowsOf q17) (by decide) (zvRd q17.rob hsz (by decide) ⟨rfl, I3, A3, rfl, ?_, (g3.kp.pm).trans k2.pm⟩)⟩
        rcases k3 with ⟨e, -⟩ | ⟨-, k3⟩
        · have : (st.1 s).2.2.1 = (st.1 s).2.2.1 - 1 := congrArg (fun z : zSl => z.2.2.1) e
          omega
        · exact k3
      · have h1 := m_row1 (X := X) (I := I) (t := t) (y := nI r) hM.m3 hs
        obtain ⟨s3, rfl, s0⟩ := hs
        have H : zMR A s (st.1 s).1 (st.1 s).2.1 (st.1 s).2.2.1 (st.1 s).2.2.2 := hM.m3 s s3
        have hv := hM.2.1 s s3
        have h6 := hv.2.1.1
        have enc : ∀ k, k < 58 → A 99 (58 * s + k) = nI (zEn (st.1 s) k) := fun k hk => by
          rw [hM.1 _ (by omega)]
          unfold zEs
          rw [show (58 * s + k) / 58 = s by omega, show (58 * s + k) % 58 = k by omega]
        refine eX12_takes _ _ _ (bX12_takes_0 _ _ _ (zvRd ob_98 h1 (by decide) ?_))
        rw [zB_t hy]
        refine zvV ob_98 m_remembers (by decide) ?_
        rintro w1 ⟨W, rfl, hW⟩
        have e0 : (10 : Int32) + (8 : Int32) * nI r = nI (10 + 8 * r) := by
          show nI 10 + nI 8 * nI r = _
          rw [pk_mul, nI_add]
        rw [e0]
        have key : ∀ k, k ≤ 58 → 10 + 8 * r ≤ k → ∀ D : Nat → Int32, (∀ j, 10 + 8 * r ≤ j → j < k → D (58 * s + j) = (if j + 8 < 58 then A 99 (58 * s + j + 8) else 0)) → (∀ j, (j < 58 * s + (10 + 8 * r) ∨ 58 * s + k ≤ j) → D j = A 99 j) → zRn X 6 0 0 MX12_takes 27 [some (.ref 98), some (.int (nI s)), none, none, some (.int (nI k))] [] (zWd I (va_up (va_up A 100 W) 99 D) t) (zQb_ (zPu st s (zTk (st.1 s) r)) I A t (nI ((st.1 s).2.2.1 - 1))) := by
          refine zdown ?_ ?_
          · intro _ D d1 d2
            refine bX12_takes_27 _ _ _ ?_
            rw [if_pos (by decide)]
            have r1 : va_up (va_up A 100 W) 99 D 99 (58 * s + 9) = nI (st.1 s).2.2.1 := by
              rw [zup_eq, d2 _ (by omega), enc 9 (by decide)]
              rfl
            refine zvRd ob_98 (r_rows s3 r1) (by decide) ?_
            have em : nI (st.1 s).2.2.1 - 1 = nI ((st.1 s).2.2.1 - 1) := nI_p (by omega)
            rw [em]
            refine zvV ob_98 (m_lays s3 (k := 9) (by decide) _) (by decide) ?_
            rintro w2 rfl
            rw [zup_eq, bx_uu]
            have r2 : va_up (va_up A 100 W) 99 (upd D (58 * s + 9) (nI ((st.1 s).2.2.1 - 1))) 99 (58 * s + 9) = nI ((st.1 s).2.2.1 - 1) := by
              rw [zup_eq, upd_eq]
            refine zvRd ob_98 (r_rows s3 r2) (by decide) ?_
            have hW2 : ∀ k, k < 174 → va_up (va_up A 100 W) 99 (upd D (58 * s + 9) (nI ((st.1 s).2.2.1 - 1))) 100 k = nI (zEs st.1 k) := fun k hk => by
              rw [zup_ne (by decide), zup_eq, hW k hk, hM.1 k hk]
            have hX : zMX st.2.1 st.2.2.1 st.2.2.2.1 st.2.2.2.2.1 st.2.2.2.2.2 I (va_up (va_up A 100 W) 99 (upd D (58 * s + 9) (nI ((st.1 s).2.2.1 - 1)))) := hM.2.2.same (fun p hp => by rw [zup_ne (by omega), zup_ne (by omega)]) (fun _ _ => rfl)
            refine zvI1 ob_98 (m_keeps hX hM.2.1 hW2 _) (by decide) ?_
            rintro w3 ⟨c, K, rfl, hK⟩
            refine ⟨rfl, _, _, rfl, zMI_push hM (zVl_Tk hv hr) (zSg_put (A := A) hM.1 (fun k hk => ?_) (fun j hj => ?_)) hK, (((((zLoE.refl I A).a (p := 100) (by decide)).a (p := 99) (by decide)).a (p := 101) (by decide)).f (p := 98) (by decide)).pc⟩
            · rw [zup_eq]
              by_cases c9 : k = 9
              · subst c9
                rw [upd_eq]
                rfl
              · rw [upd_ne _ _ (by omega)]
                by_cases ck : k < 10 + 8 * r
                · rw [d2 _ (by omega), enc k hk]
                  congr 1
                  unfold zEn
                  by_cases k0 : k = 0
                  · rw [if_pos k0, if_pos k0]
                    rfl
                  · rw [if_neg k0, if_neg k0]
                    by_cases k9 : k < 9
                    · rw [if_pos k9, if_pos k9]
                      rfl
                    · rw [if_neg k9, if_neg k9, if_neg c9, if_neg c9]
                      show _ = (if (k - 10) / 8 < r then _ else _)
                      rw [if_pos (by omega)]
                · rw [d1 k (by omega) hk]
                  have e2 : zEn (zTk (st.1 s) r) k = (st.1 s).2.2.2 ((k - 10) / 8 + 1) ((k - 10) % 8) := by
                    unfold zEn
                    rw [if_neg (by omega), if_neg (by omega), if_neg c9]
                    show (if (k - 10) / 8 < r then _ else _) = _
                    rw [if_neg (by omega)]
                  rw [e2]
                  by_cases c8 : k + 8 < 58
                  · rw [if_pos c8, show 58 * s + k + 8 = 58 * s + (k + 8) by omega, enc (k + 8) c8]
                    congr 1
                    unfold zEn
                    rw [if_neg (by omega), if_neg (by omega), if_neg (by omega), show (k + 8 - 10) / 8 = (k - 10) / 8 + 1 by omega, show (k + 8 - 10) % 8 = (k - 10) % 8 by omega]
                  · rw [if_neg c8, hv.2.1.2.2.2 _ _ (by omega)]
                    rfl
            · rw [zup_eq, upd_ne _ _ (by omega), d2 j (by omega)]
          · intro k hk ih hrk D d1 d2
            refine bX12_takes_27 _ _ _ ?_
            show if nI 58 ≤ nI k then _ else _
            rw [zi_le (by decide) (by omega), if_neg (by omega)]
            have go : ∀ z : Int32, z = (if k + 8 < 58 then A 99 (58 * s + k + 8) else 0) → zRn X 6 0 0 MX12_takes 62 [some (.ref 98), some (.int (nI s)), none, none, some (.int (nI k))] [.int z, .int (nI k), .int (nI s), .ref 98] (zWd I (va_up (va_up A 100 W) 99 D) t) (zQb_ (zPu st s (zTk (st.1 s) r)) I A t (nI ((st.1 s).2.2.1 - 1))) := fun z hz => by
              refine bX12_takes_62 _ _ _ _ _ _ _ (zvV ob_98 (m_lays s3 hk z) (by decide) ?_)
              rintro w2 rfl
              rw [zup_eq, bx_uu, nI_1]
              refine ih (by omega) _ (fun j hj1 hj2 => ?_) (fun j hj => ?_)
              · by_cases e : j = k
                · rw [e, upd_eq]
                  exact hz
                · rw [upd_ne _ _ (by omega)]
                  exact d1 j hj1 (by omega)
              · rw [upd_ne _ _ (by omega)]
                exact d2 j (by omega)
            show if nI 58 ≤ nI k + nI 8 then _ else _
            rw [nI_add, zi_le (by decide) (by omega)]
            by_cases c8 : 58 ≤ k + 8
            · rw [if_pos c8]
              exact go 0 (by rw [if_neg (by omega)])
            · rw [if_neg c8]
              have hof := m_of (X := X) (I := I) (A := va_up (va_up A 100 W) 99 D) (t := t) s3 (k := k + 8) (by omega)
              have e8 : nI k + 8 = nI (k + 8) := by
                show nI k + nI 8 = _
                rw [nI_add]
              rw [e8]
              refine zvRd ob_98 hof (by decide) (go _ ?_)
              rw [if_pos (by omega), zup_eq, d2 _ (by omega), show 58 * s + (k + 8) = 58 * s + k + 8 by omega]
        have k0 := key (10 + 8 * r) (by omega) (Nat.le_refl _) (A 99) (fun j h1 h2 => by omega) (fun _ _ => rfl)
        have e1 : va_up (va_up A 100 W) 99 (A 99) = va_up A 100 W := by
          have : A 99 = va_up A 100 W 99 := by rw [zup_ne (by decide)]
          rw [this, zup_self]
        rw [e1] at k0
        exact k0
    · rw [Bool.not_eq_true] at hy
      refine zAc.mk (-2) st 6 6 (by decide) (by decide) (fun I A t hC => ?_) (fun I A t hM => ?_)
      · exact eX11_takes _ _ _ (bX11_takes_0 _ _ _ (zvO0 ob_0 (v_orderWithRow1 hC.1 hs hy) (by decide) (zQa.id hC)))
      · refine eX12_takes _ _ _ (bX12_takes_0 _ _ _ (zvRd ob_98 (m_row1 hM.m3 hs) (by decide) ?_))
        rw [zB_f hy]
        exact zQb_.id hM
  · refine zAc.mk (-2) st 6 6 (by decide) (by decide) (fun I A t hC => ?_) (fun I A t hM => ?_)
    · exact eX11_takes _ _ _ (bX11_takes_0 _ _ _ (zvO0 ob_0 (v_orderWithRow0 hC.1 hn) (by decide) (zQa.id hC)))
    · refine eX12_takes _ _ _ (bX12_takes_0 _ _ _ (zvRd ob_98 (m_row0 hM.m3 hn) (by decide) ?_))
      rw [if_pos rfl]
      exact zQb_.id hM
end ZA3
