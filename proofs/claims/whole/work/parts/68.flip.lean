/-! ===== flip, joins ===== -/
theorem zov_po {n : Nat} {u : Nat → Nat} (h : zPo n u) : zPo n (zov n u) := ⟨h.1, zov_lt n u, fun b hb => zov_hi h hb, fun a => by
  show (zov n u a).testBit a = false
  rw [zov_bit h]
  exact h.2.2.2.1 a, fun a b c h1 h2 => by
  have h1 : (zov n u b).testBit a = true := h1
  have h2 : (zov n u c).testBit b = true := h2
  show (zov n u c).testBit a = true
  rw [zov_bit h] at h1 h2 ⊢
  exact h.2.2.2.2 _ _ _ h2 h1⟩
theorem zov_ov {n : Nat} {u : Nat → Nat} (h : zPo n u) (a : Nat) : zov n (zov n u) a = u a := zext (fun i => by
  rw [zov_bit (zov_po h)]
  show (zov n u i).testBit a = (u a).testBit i
  rw [zov_bit h])
def zFl_ (x : zSl) : zSl := (x.1, zov x.1 x.2.1, x.2.2.1, fun r i => if r < x.2.2.1 ∧ i < x.1 then x.2.2.2 r (x.1 - 1 - i) else 0)
theorem zVl_Fl {x : zSl} (hx : zVl x) : zVl (zFl_ x) := by
  obtain ⟨h1, ⟨a1, a2, a3, a4⟩, h3⟩ := hx
  refine ⟨zov_po h1, ⟨a1, fun r i hr hi => ?_, fun r i j hr hi hj => ?_, fun r i hri => ?_⟩, h3⟩
  · have hr : r < x.2.2.1 := hr
    have hi : i < x.1 := hi
    show (if r < x.2.2.1 ∧ i < x.1 then x.2.2.2 r (x.1 - 1 - i) else 0) < x.1
    rw [if_pos ⟨hr, hi⟩]
    exact a2 r _ hr (by omega)
  · have hr : r < x.2.2.1 := hr
    have hi : i < x.1 := hi
    have hj : j < x.1 := hj
    show (if r < x.2.2.1 ∧ i < x.1 then x.2.2.2 r (x.1 - 1 - i) else 0) = (if r < x.2.2.1 ∧ j < x.1 then x.2.2.2 r (x.1 - 1 - j) else 0) → i = j
    rw [if_pos ⟨hr, hi⟩, if_pos ⟨hr, hj⟩]
    intro e
    have := a3 r _ _ hr (by omega) (by omega) e
    omega
  · have hri : x.2.2.1 ≤ r ∨ x.1 ≤ i := hri
    show (if r < x.2.2.1 ∧ i < x.1 then x.2.2.2 r (x.1 - 1 - i) else 0) = 0
    rw [if_neg (by omega)]
section ZF1
variable {X : zX} {I A : zF2} {t : zW} {q n R : Nat} {x : zSl}
theorem v_rturn (hq : zOq q) (hR : R ≤ 6) (hI : I (q + 3) 1 = nI R) (hn : n ≤ 8) (h0 : 0 < n) : zEv X 2 0 0 MX8_turnOver [.ref (q + 3), .int (nI n)] (zWd I A t) (fun v w1 => v = none ∧ ∃ D, w1 = zWd I (va_up A (q + 4) D) t ∧ ∀ r i, r < R → i < n → D (8 * r + i) = A (q + 4) (8 * r + (n - 1 - i))) := by
  refine eX8_turnOver _ _ (bX8_turnOver_0 _ _ ?_)
  have key : ∀ r, r ≤ R → ∀ D : Nat → Int32, (∀ r' i, r' < r → i < n → D (8 * r' + i) = A (q + 4) (8 * r' + (n - 1 - i))) → (∀ m, 8 * r ≤ m → D m = A (q + 4) m) → zRn X 2 0 0 MX8_turnOver 2 [some (.ref (q + 3)), some (.int (nI n)), some (.int (nI r)), none, none, none] [] (zWd I (va_up A (q + 4) D) t) (fun v w1 => v = none ∧ ∃ D, w1 = zWd I (va_up A (q + 4) D) t ∧ ∀ r i, r < R → i < n → D (8 * r + i) = A (q + 4) (8 * r + (n - 1 - i))) := by
    refine zdown ?_ ?_
    · intro D d1 _
      refine bX8_turnOver_2 _ _ _ ⟨_, hq.rsz.rd, ?_⟩
      rw [hI, if_pos (Int32.le_refl _)]
      exact ⟨rfl, D, rfl, d1⟩
    · intro r hr ih D d1 d2
      refine bX8_turnOver_2 _ _ _ ⟨_, hq.rsz.rd, ?_⟩
      rw [hI, zi_le (by omega) (by omega), if_neg (by omega), nI_p h0]
      have inner : ∀ i, i ≤ n / 2 → ∀ D : Nat → Int32, (∀ r' i, r' < r → i < n → D (8 * r' + i) = A (q + 4) (8 * r' + (n - 1 - i))) → (∀ m, 8 * r + 8 ≤ m → D m = A (q + 4) m) → (∀ i', i' < i → D (8 * r + i') = A (q + 4) (8 * r + (n - 1 - i')) ∧ D (8 * r + (n - 1 - i')) = A (q + 4) (8 * r + i')) → (∀ i', i ≤ i' → i' ≤ n - 1 - i → D (8 * r + i') = A (q + 4) (8 * r + i')) → zRn X 2 0 0 MX8_turnOver 17 [some (.ref (q + 3)), some (.int (nI n)), some (.int (nI r)), some (.int (nI i)), some (.int (nI (n - 1 - i))), none] [] (zWd I (va_up A (q + 4) D) t) (fun v w1 => v = none ∧ ∃ D, w1 = zWd I (va_up A (q + 4) D) t ∧ ∀ r i, r < R → i < n → D (8 * r + i) = A (q + 4) (8 * r + (n - 1 - i))) := by
        refine zdown ?_ ?_
        · intro D e1 e2 e3 e4
          refine bX8_turnOver_17 _ _ _ _ _ ?_
          rw [zi_le (by omega) (by omega), if_pos (by omega), nI_1]
          refine ih D (fun r' i' hr' hi' => ?_) (fun m hm => e2 m (by omega))
          rcases Nat.lt_or_ge r' r with z | z
          · exact e1 r' i' z hi'
          · have : r' = r := by omega
            subst this
            rcases Nat.lt_or_ge i' (n / 2) with z1 | z1
            · exact (e3 i' z1).1
            · by_cases z2 : n - 1 - i' < n / 2
              · have := (e3 (n - 1 - i') z2).2
                rw [show n - 1 - (n - 1 - i') = i' by omega] at this
                exact this
              · rw [e4 i' z1 (by omega), show n - 1 - i' = i' by omega]
        · intro i hi ihi D e1 e2 e3 e4
          have lt : i < n - 1 - i := by omega
          refine bX8_turnOver_17 _ _ _ _ _ ?_
          rw [zi_le (by omega) (by omega), if_neg (by omega)]
          refine zvRd hq.rob (v_rget hq (by omega) (by omega)) (by decide) (zvRd hq.rob (v_rget hq (by omega) (by omega)) (by decide) (zvV hq.rob (v_rput hq (by omega) (by omega) _) (by decide) ?_))
          rintro w1 rfl
          refine zvV hq.rob (v_rput hq (by omega) (by omega) _) (by decide) ?_
          rintro w2 rfl
          rw [zup_eq, bx_uu, zup_eq, bx_uu, nI_1, nI_p (by omega), show n - 1 - i - 1 = n - 1 - (i + 1) by omega]
          refine ihi _ (fun r' i' hr' hi' => ?_) (fun m hm => ?_) (fun i' hi' => ?_) (fun i' h1 h2 => ?_)
          · rw [upd_ne _ _ (by omega), upd_ne _ _ (by omega)]
            exact e1 r' i' hr' hi'
          · rw [upd_ne _ _ (by omega), upd_ne _ _ (by omega)]
            exact e2 m hm
          · by_cases e : i' = i
            · subst e
              refine ⟨?_, ?_⟩
              · rw [upd_ne _ _ (by omega), upd_eq]
                exact e4 _ (by omega) (Nat.le_refl _)
              · rw [upd_eq]
                exact e4 i' (Nat.le_refl _) (by omega)
            · refine ⟨?_, ?_⟩
              · rw [upd_ne _ _ (by omega), upd_ne _ _ (by omega)]
                exact (e3 i' (by omega)).1
              · rw [upd_ne _ _ (by omega), upd_ne _ _ (by omega)]
                exact (e3 i' (by omega)).2
          · rw [upd_ne _ _ (by omega), upd_ne _ _ (by omega)]
            exact e4 i' (by omega) (by omega)
      have i0 := inner 0 (Nat.zero_le _) D d1 (fun m hm => d2 m (by omega)) (fun i' hi' => absurd hi' (Nat.not_lt_zero _)) (fun i' _ _ => d2 _ (by omega))
      rw [Nat.sub_zero] at i0
      exact i0
  have k0 := key 0 (Nat.zero_le _) (A (q + 4)) (fun r' i hr' => absurd hr' (Nat.not_lt_zero _)) (fun _ _ => rfl)
  rw [zup_self] at k0
  exact k0
theorem v_turnOver (H : zCS I A q x) (hv : zVl x) (h0 : 0 < x.1) : zEv X 3 0 0 MX5_turnOver [.ref q] (zWd I A t) (fun v w1 => v = none ∧ ∃ I' A', w1 = zWd I' A' t ∧ zCS I' A' q (zFl_ x) ∧ zOn q I A I' A') := by
  have H1 := H.1
  have hq := H1.1
  have hp := H1.2.1
  have h8 := hp.1
  have h6 := H.2.1.1
  refine eX5_turnOver _ (bX5_turnOver_0 _ ?_)
  have key : ∀ k, k ≤ x.1 → ∀ B C : Nat → Int32, (∀ j, j < k → B j = nI (zov x.1 x.2.1 j) ∧ C j = nI (x.2.1 j)) → (∀ j, k ≤ j → j < x.1 → B j = nI (x.2.1 j) ∧ C j = nI (zov x.1 x.2.1 j)) → zRn X 3 0 0 MX5_turnOver 2 [some (.ref q), some (.int (nI k)), none] [] (zWd I (va_up (va_up A (q + 1) B) (q + 2) C) t) (fun v w1 => v = none ∧ ∃ I' A', w1 = zWd I' A' t ∧ zCS I' A' q (zFl_ x) ∧ zOn q I A I' A') := by
    refine zdown ?_ ?_
    · intro B C h1 _
      have hz : zfI (zWd I (va_up (va_up A (q + 1) B) (q + 2) C) t) q 5 3 = some (nI x.1) := by rw [hq.sz.rd, H1.2.2.1]
      refine bX5_turnOver_2 _ _ ⟨_, hz, ?_⟩
      rw [if_pos (Int32.le_refl _)]
      refine ⟨_, hq.rw.rd, _, hz, zvV hq.rob (v_rturn hq h6 H.2.2.1 h8 h0) (by decide) ?_⟩
      rintro w1 ⟨D, rfl, hD⟩
      refine ⟨rfl, I, _, rfl, ⟨⟨hq, zov_po hp, H1.2.2.1, fun b hb => ?_, fun b hb => ?_⟩, (zVl_Fl hv).2.1, H.2.2.1, fun r i hr hi => ?_⟩, (((zOn.refl q I A).a (p := q + 1) (by omega)).a (p := q + 2) (by omega)).a (p := q + 4) (by omega)⟩
      · rw [zup_ne (by omega), zup_ne (by omega), zup_eq]
        exact (h1 b hb).1
      · rw [zup_ne (by omega), zup_eq]
        show _ = nI (zov x.1 (zov x.1 x.2.1) b)
        rw [zov_ov hp]
        exact (h1 b hb).2
      · have hr : r < x.2.2.1 := hr
        have hi : i < x.1 := hi
        rw [zup_eq, hD r i hr hi, zup_ne (by omega), zup_ne (by omega)]
        show _ = nI (if r < x.2.2.1 ∧ i < x.1 then x.2.2.2 r (x.1 - 1 - i) else 0)
        rw [if_pos ⟨hr, hi⟩]
        exact H.2.2.2 r _ hr (by omega)
    · intro k hk ih B C h1 h2
      have hz : zfI (zWd I (va_up (va_up A (q + 1) B) (q + 2) C) t) q 5 3 = some (nI x.1) := by rw [hq.sz.rd, H1.2.2.1]
      obtain ⟨k1, k2⟩ := h2 k (Nat.le_refl _) hk
      refine bX5_turnOver_2 _ _ ⟨_, hz, ?_⟩
      rw [zi_le (by omega) (by omega), if_neg (by omega)]
      refine ⟨_, hq.bl.rd, nI (x.2.1 k), ?_, _, hq.bl.rd, _, hq.ab.rd, nI (zov x.1 x.2.1 k), ?_, zWd I (va_up (va_up A (q + 1) (upd B k (nI (zov x.1 x.2.1 k)))) (q + 2) C) t, ?_, _, hq.ab.rd, zWd I (va_up (va_up A (q + 1) (upd B k (nI (zov x.1 x.2.1 k)))) (q + 2) (upd C k (nI (x.2.1 k)))) t, ?_, ?_⟩
      · rw [hq.bA.rd (by omega), zup_ne (by omega), zup_eq, k1]
      · rw [hq.aA.rd (by omega), zup_eq, k2]
      · rw [hq.bA.wr (by omega), zup_ne (show q + 1 ≠ q + 2 by omega), zup_eq, zup_comm _ (show q + 2 ≠ q + 1 by omega), bx_uu]
      · rw [hq.aA.wr (by omega), zup_eq, bx_uu]
      · rw [nI_1]
        refine ih _ _ (fun j hj => ?_) (fun j hj hj2 => ?_)
        · by_cases e : j = k
          · rw [e, upd_eq, upd_eq]
            exact ⟨rfl, rfl⟩
          · rw [upd_ne _ _ e, upd_ne _ _ e]
            exact h1 j (by omega)
        · rw [upd_ne _ _ (by omega), upd_ne _ _ (by omega)]
          exact h2 j (by omega) hj2
  have k0 := key 0 (Nat.zero_le _) (A (q + 1)) (A (q + 2)) (fun j hj => absurd hj (Nat.not_lt_zero _)) (fun j _ hj => ⟨H1.2.2.2.1 j hj, H1.2.2.2.2 j hj⟩)
  rw [zup_self, zup_self] at k0
  exact k0
end ZF1
/-- the model's cells while an act is made: state, what was, turned -/
abbrev zMW (A : zF2) (W D T : Nat → Int32) : zF2 := va_up (va_up (va_up A 100 W) 99 D) 112 T
theorem zMW_99 (A : zF2) (W D T : Nat → Int32) : zMW A W D T 99 = D := by unfold zMW; rw [zup_ne (by decide), zup_eq]
theorem zMW_100 (A : zF2) (W D T : Nat → Int32) : zMW A W D T 100 = W := by unfold zMW; rw [zup_ne (by decide), zup_ne (by decide), zup_eq]
theorem zMW_112 (A : zF2) (W D T : Nat → Int32) : zMW A W D T 112 = T := zup_eq
theorem zMW_s99 (A : zF2) (W D T D' : Nat → Int32) : va_up (zMW A W D T) 99 D' = zMW A W D' T := by unfold zMW; rw [zup_comm _ (by decide), bx_uu]
theorem zMW_s112 (A : zF2) (W D T T' : Nat → Int32) : va_up (zMW A W D T) 112 T' = zMW A W D T' := by unfold zMW; rw [bx_uu]
theorem zMW_id (A : zF2) (W : Nat → Int32) : zMW A W (A 99) (A 112) = va_up A 100 W := by
  unfold zMW
  have e1 : A 99 = va_up A 100 W 99 := by rw [zup_ne (by decide)]
  have e2 : A 112 = va_up A 100 W 112 := by rw [zup_ne (by decide)]
  rw [e1, zup_self, e2, zup_self]
theorem zMW_X {st : zSt} {I A : zF2} (hM : zMIv st I A) (W D T : Nat → Int32) : zMX st.2.1 st.2.2.1 st.2.2.2.1 st.2.2.2.2.1 st.2.2.2.2.2 I (zMW A W D T) := hM.2.2.same (fun p hp => by unfold zMW; rw [zup_ne (by omega), zup_ne (by omega), zup_ne (by omega)]) (fun _ _ => rfl)
theorem zMW_L (I A : zF2) (W D T : Nat → Int32) : zLoE I A I (zMW A W D T) := (((zLoE.refl I A).a (p := 100) (by decide)).a (p := 99) (by decide)).a (p := 112) (by decide)
theorem zMW_W {st : zSt} {I A : zF2} (hM : zMIv st I A) {W : Nat → Int32} (hW : ∀ k, k < 174 → W k = A 99 k) (D T : Nat → Int32) : ∀ k, k < 174 → zMW A W D T 100 k = nI (zEs st.1 k) := fun k hk => by rw [zMW_100, hW k hk, hM.1 k hk]
section ZF2_
variable {X : zX} {st : zSt} {x y z w4 : Int32}
theorem a_flip : zAc X MX11_flip MX12_flip [.int x] st := by
  rcases zslot st.1 x with ⟨s, hs⟩ | hn
  · refine zAc.mk (nI (zhe (st.1 s).1 (zov (st.1 s).1 (st.1 s).2.1))) (zPd st s (zFl_ (st.1 s))) 15 15 (by decide) (by decide) (fun I A t hC => ?_) (fun I A t hM => ?_)
    · have h0 := hC.ns hs.1
      have hv := hC.2.1 s hs.1
      refine eX11_flip _ _ (bX11_flip_0 _ _ (zvO1 ob_0 (v_orderIn1 hC.1 hs) (by decide) ⟨_, fr_0_1.rd, zvV q17.ob (v_copyFrom q17 (by have := hs.1; omega) h0) (by decide) ?_⟩))
      rintro w1 ⟨I1, A1, rfl, g1, g2⟩
      refine ⟨_, fr_0_1.rd, zvV q17.ob (v_turnOver g1 hv hs.2.2) (by decide) ?_⟩
      rintro w2 ⟨I2, A2, rfl, g3, g4⟩
      have g5 := g2.trans g4
      have hx := hs.2.1
      rw [hx]
      refine zvB (M := MX11_flip) hC (g5.hi q17) (g5.kp.ci hC) g3 (zVl_Fl hv) hs.1 (by decide) (fun I3 A3 k1 k2 k3 => ?_)
      refine ⟨_, fr_0_6.rd, _, fr_0_1.rd, zvI2 ob_80 (v_height k1.1) (by decide) ?_⟩
      rintro r w3 ⟨rfl, D, rfl, -⟩
      have hk := (zKp.refl I3 A3).a (p := 81) (f := D) (by decide)
      exact ⟨rfl, _, _, rfl, hk.ci k2, k3.trans hk.pm⟩
    · have h1 := m_ord1 (X := X) (I := I) (t := t) hM.m3 hs
      obtain ⟨s3, rfl, s0⟩ := hs
      have H : zMR A s (st.1 s).1 (st.1 s).2.1 (st.1 s).2.2.1 (st.1 s).2.2.2 := hM.m3 s s3
      have hv := hM.2.1 s s3
      have hvy := zVl_Fl hv
      have h8 := H.2.1.1
      have h6 := H.2.2.1.1
      refine eX12_flip _ _ (bX12_flip_0 _ _ (zvRd ob_98 h1 (by decide) ?_))
      rw [if_neg (by decide)]
      refine zvV ob_98 m_remembers (by decide) ?_
      rintro w1 ⟨W, rfl, hW⟩
      -- the rows
      have rowsL : ∀ r, r ≤ (st.1 s).2.2.1 → ∀ D T : Nat → Int32, (∀ k, k < 10 → D (58 * s + k) = nI (zEn (zFl_ (st.1 s)) k)) → (∀ r' i, r' < r → i < (st.1 s).1 → D (58 * s + 10 + 8 * r' + i) = nI ((st.1 s).2.2.2 r' ((st.1 s).1 - 1 - i))) → (∀ r' i, r' < 6 → i < 8 → (r ≤ r' ∨ (st.1 s).1 ≤ i) → D (58 * s + 10 + 8 * r' + i) = A 99 (58 * s + 10 + 8 * r' + i)) → (∀ j, (j < 58 * s ∨ 58 * s + 58 ≤ j) → D j = A 99 j) → zRn X 15 0 0 MX12_flip 77 [some (.ref 98), some (.int (nI s)), some (.int (nI r)), none] [] (zWd I (zMW A W D T) t) (zQb_ (zPd st s (zFl_ (st.1 s))) I A t (nI (zhe (st.1 s).1 (zov (st.1 s).1 (st.1 s).2.1)))) := by
        refine zdown ?_ ?_
        · intro D T d1 d2 d3 d4
          have r9 : zMW A W D T 99 (58 * s + 9) = nI (st.1 s).2.2.1 := by rw [zMW_99, d1 9 (by decide)]; rfl
          have hsg : zSg (zMW A W D T) (zEs (va_up st.1 s (zFl_ (st.1 s)))) := zSg_put (A := A) hM.1 (fun k hk => by
            rw [zMW_99]
            by_cases c : k < 10
            · exact d1 k c
            · have e : k = 10 + 8 * ((k - 10) / 8) + (k - 10) % 8 := by omega
              have er : (k - 10) / 8 < 6 := by omega
              have ei : (k - 10) % 8 < 8 := by omega
              generalize (k - 10) / 8 = r at *
              generalize (k - 10) % 8 = i at *
              subst e
              rw [zEn_h ei, show 58 * s + (10 + 8 * r + i) = 58 * s + 10 + 8 * r + i by omega]
              show _ = nI (if r < (st.1 s).2.2.1 ∧ i < (st.1 s).1 then (st.1 s).2.2.2 r ((st.1 s).1 - 1 - i) else 0)
              by_cases c2 : r < (st.1 s).2.2.1 ∧ i < (st.1 s).1
              · rw [if_pos c2]
                exact d2 r i c2.1 c2.2
              · rw [if_neg c2, d3 r i er ei (by omega), H.2.2.2.2.2.2 r i er ei, hv.2.1.2.2.2 _ _ (by omega)]) (fun j hj => by rw [zMW_99, d4 j hj])
          have HN := zMR_new s3 hM.2.1 hvy (zMW_X hM W D T) hsg
          refine bX12_flip_77 _ _ _ (zvRd ob_98 (r_rows s3 r9) (by decide) ?_)
          rw [if_pos (Int32.le_refl _)]
          exact zvRd ob_98 (m_height HN) (by decide) (zvD s3 hM.2.1 hvy (zMW_X hM W D T) (zMW_W hM hW D T) hsg (zMW_L I A W D T) _ (by decide))
        · intro r hr ih D T d1 d2 d3 d4
          have r9 : zMW A W D T 99 (58 * s + 9) = nI (st.1 s).2.2.1 := by rw [zMW_99, d1 9 (by decide)]; rfl
          refine bX12_flip_77 _ _ _ (zvRd ob_98 (r_rows s3 r9) (by decide) ?_)
          rw [zi_le (by omega) (by omega), if_neg (by omega)]
          have lay : ∀ i, i ≤ (st.1 s).1 → ∀ D : Nat → Int32, ∀ T : Nat → Int32, (∀ i', i' < (st.1 s).1 → T i' = nI ((st.1 s).2.2.2 r ((st.1 s).1 - 1 - i'))) → (∀ k, k < 10 → D (58 * s + k) = nI (zEn (zFl_ (st.1 s)) k)) → (∀ r' i', r' < r → i' < (st.1 s).1 → D (58 * s + 10 + 8 * r' + i') = nI ((st.1 s).2.2.2 r' ((st.1 s).1 - 1 - i'))) → (∀ i', i' < i → D (58 * s + 10 + 8 * r + i') = nI ((st.1 s).2.2.2 r ((st.1 s).1 - 1 - i'))) → (∀ r' i', r' < 6 → i' < 8 → (r + 1 ≤ r' ∨ (st.1 s).1 ≤ i') → D (58 * s + 10 + 8 * r' + i') = A 99 (58 * s + 10 + 8 * r' + i')) → (∀ j, (j < 58 * s ∨ 58 * s + 58 ≤ j) → D j = A 99 j) → zRn X 15 0 0 MX12_flip 126 [some (.ref 98), some (.int (nI s)), some (.int (nI r)), some (.int (nI i))] [] (zWd I (zMW A W D T) t) (zQb_ (zPd st s (zFl_ (st.1 s))) I A t (nI (zhe (st.1 s).1 (zov (st.1 s).1 (st.1 s).2.1)))) := by
            refine zdown ?_ ?_
            · intro D T hT e1 e2 e3 e4 e5
              have r0 : zMW A W D T 99 (58 * s) = nI (st.1 s).1 := by rw [zMW_99]; exact e1 0 (by decide)
              refine bX12_flip_126 _ _ _ _ (zvRd ob_98 (r_many s3 r0) (by decide) ?_)
              rw [if_pos (Int32.le_refl _), nI_1]
              refine ih D T e1 (fun r' i' hr' hi' => ?_) (fun r' i' h1 h2 h3 => e4 r' i' h1 h2 (by omega)) e5
              rcases Nat.lt_or_ge r' r with z | z
              · exact e2 r' i' z hi'
              · have : r' = r := by omega
                subst this
                exact e3 i' hi'
            · intro i hi ihi D T hT e1 e2 e3 e4 e5
              have r0 : zMW A W D T 99 (58 * s) = nI (st.1 s).1 := by rw [zMW_99]; exact e1 0 (by decide)
              refine bX12_flip_126 _ _ _ _ (zvRd ob_98 (r_many s3 r0) (by decide) ?_)
              rw [zi_le (by omega) (by omega), if_neg (by omega)]
              refine ⟨_, fr_98_25.rd, nI ((st.1 s).2.2.2 r ((st.1 s).1 - 1 - i)), ?_, ?_⟩
              · rw [ar_112.rd (by omega), zMW_112, hT i hi]
              · have ea : (10 : Int32) + (8 : Int32) * nI r + nI i = nI (10 + 8 * r + i) := by
                  show nI 10 + nI 8 * nI _ + nI i = _
                  rw [pk_mul, nI_add, nI_add]
                rw [ea]
                refine zvV ob_98 (m_lays s3 (k := 10 + 8 * r + i) (by omega) _) (by decide) ?_
                rintro w3 rfl
                rw [zMW_99, zMW_s99, nI_1]
                refine ihi _ T hT (fun k hk => ?_) (fun r' i' hr' hi' => ?_) (fun i' hi' => ?_) (fun r' i' h1 h2 h3 => ?_) (fun j hj => ?_)
                · rw [upd_ne _ _ (by omega)]
                  exact e1 k hk
                · rw [upd_ne _ _ (by omega)]
                  exact e2 r' i' hr' hi'
                · by_cases e : i' = i
                  · rw [e, show 58 * s + 10 + 8 * r + i = 58 * s + (10 + 8 * r + i) by omega, upd_eq]
                  · rw [upd_ne _ _ (by omega)]
                    exact e3 i' (by omega)
                · rw [upd_ne _ _ (by omega)]
                  exact e4 r' i' h1 h2 h3
                · rw [upd_ne _ _ (by omega)]
                  exact e5 j hj
          have turn : ∀ i, i ≤ (st.1 s).1 → ∀ T : Nat → Int32, (∀ i', i' < i → T i' = nI ((st.1 s).2.2.2 r ((st.1 s).1 - 1 - i'))) → zRn X 15 0 0 MX12_flip 88 [some (.ref 98), some (.int (nI s)), some (.int (nI r)), some (.int (nI i))] [] (zWd I (zMW A W D T) t) (zQb_ (zPd st s (zFl_ (st.1 s))) I A t (nI (zhe (st.1 s).1 (zov (st.1 s).1 (st.1 s).2.1)))) := by
            refine zdown ?_ ?_
            · intro T hT
              have r0 : zMW A W D T 99 (58 * s) = nI (st.1 s).1 := by rw [zMW_99]; exact d1 0 (by decide)
              refine bX12_flip_88 _ _ _ _ (zvRd ob_98 (r_many s3 r0) (by decide) ?_)
              rw [if_pos (Int32.le_refl _)]
              exact lay 0 (Nat.zero_le _) D T hT d1 d2 (fun i' hi' => absurd hi' (Nat.not_lt_zero _)) (fun r' i' h1 h2 h3 => d3 r' i' h1 h2 (by omega)) d4
            · intro i hi ihi T hT
              have r0 : zMW A W D T 99 (58 * s) = nI (st.1 s).1 := by rw [zMW_99]; exact d1 0 (by decide)
              refine bX12_flip_88 _ _ _ _ (zvRd ob_98 (r_many s3 r0) (by decide) ?_)
              rw [zi_le (by omega) (by omega), if_neg (by omega)]
              have ei : nI (st.1 s).1 - 1 - nI i = nI ((st.1 s).1 - 1 - i) := by
                rw [nI_p s0, pk_sub (by omega)]
              have rr : zMW A W D T 99 (58 * s + 10 + 8 * r + ((st.1 s).1 - 1 - i)) = nI ((st.1 s).2.2.2 r ((st.1 s).1 - 1 - i)) := by
                rw [zMW_99, d3 r _ (by omega) (by omega) (Or.inl (Nat.le_refl _)), H.2.2.2.2.2.2 r _ (by omega) (by omega)]
              refine ⟨_, fr_98_25.rd, zvRd ob_98 (r_many s3 r0) (by decide) ?_⟩
              rw [ei]
              refine zvRd ob_98 (r_rowAt s3 (by omega) (by omega) rr) (by decide) ⟨_, ar_112.wr (by omega), ?_⟩
              rw [zMW_112, zMW_s112, nI_1]
              refine ihi _ (fun i' hi' => ?_)
              by_cases e : i' = i
              · rw [e, upd_eq]
              · rw [upd_ne _ _ e]
                exact hT i' (by omega)
          exact turn 0 (Nat.zero_le _) T (fun i' hi' => absurd hi' (Nat.not_lt_zero _))
      -- who is below whom
      have layU : ∀ k, k ≤ (st.1 s).1 → ∀ D T : Nat → Int32, (∀ a, a < (st.1 s).1 → T a = nI (zov (st.1 s).1 (st.1 s).2.1 a)) → (∀ a, a < k → D (58 * s + 1 + a) = nI (zov (st.1 s).1 (st.1 s).2.1 a)) → (∀ j, (j < 58 * s + 1 ∨ 58 * s + 1 + k ≤ j) → D j = A 99 j) → zRn X 15 0 0 MX12_flip 46 [some (.ref 98), some (.int (nI s)), some (.int (nI k)), none] [] (zWd I (zMW A W D T) t) (zQb_ (zPd st s (zFl_ (st.1 s))) I A t (nI (zhe (st.1 s).1 (zov (st.1 s).1 (st.1 s).2.1)))) := by
        refine zdown ?_ ?_
        · intro D T hT d1 d2
          have r0 : zMW A W D T 99 (58 * s) = nI (st.1 s).1 := by rw [zMW_99, d2 _ (by omega), H.2.2.2.1]
          refine bX12_flip_46 _ _ _ (zvRd ob_98 (r_many s3 r0) (by decide) ?_)
          rw [if_pos (Int32.le_refl _)]
          refine rowsL 0 (Nat.zero_le _) D T (fun k hk => ?_) (fun r' i hr' => absurd hr' (Nat.not_lt_zero _)) (fun r' i _ _ _ => d2 _ (by omega)) (fun j hj => d2 j (by omega))
          by_cases k0 : k = 0
          · rw [k0, d2 _ (by omega), zenc hM s3 (by decide)]
            rfl
          · by_cases k9 : k = 9
            · rw [k9, d2 _ (by omega), zenc hM s3 (by decide)]
              rfl
            · have e : k = 1 + (k - 1) := by omega
              rw [e, zEn_u (by omega)]
              show _ = nI (zov (st.1 s).1 (st.1 s).2.1 (k - 1))
              rcases Nat.lt_or_ge (k - 1) (st.1 s).1 with z | z
              · rw [show 58 * s + (1 + (k - 1)) = 58 * s + 1 + (k - 1) by omega]
                exact d1 _ z
              · rw [d2 _ (by omega), zenc hM s3 (by omega), zEn_u (by omega), hv.1.2.2.1 _ z, zov_hi hv.1 z]
        · intro k hk ih D T hT d1 d2
          have r0 : zMW A W D T 99 (58 * s) = nI (st.1 s).1 := by rw [zMW_99, d2 _ (by omega), H.2.2.2.1]
          refine bX12_flip_46 _ _ _ (zvRd ob_98 (r_many s3 r0) (by decide) ?_)
          rw [zi_le (by omega) (by omega), if_neg (by omega)]
          refine ⟨_, fr_98_25.rd, nI (zov (st.1 s).1 (st.1 s).2.1 k), ?_, ?_⟩
          · rw [ar_112.rd (by omega), zMW_112, hT k hk]
          · have e1 : (1 : Int32) + nI k = nI (1 + k) := by
              show nI 1 + nI k = _
              rw [nI_add]
            rw [e1]
            refine zvV ob_98 (m_lays s3 (k := 1 + k) (by omega) _) (by decide) ?_
            rintro w3 rfl
            rw [zMW_99, zMW_s99, nI_1]
            refine ih _ T hT (fun a ha => ?_) (fun j hj => ?_)
            · by_cases e : a = k
              · rw [e, show 58 * s + 1 + k = 58 * s + (1 + k) by omega, upd_eq]
              · rw [upd_ne _ _ (by omega)]
                exact d1 a (by omega)
            · rw [upd_ne _ _ (by omega)]
              exact d2 j (by omega)
      have turnU : ∀ k, k ≤ (st.1 s).1 → ∀ T : Nat → Int32, (∀ a, a < k → T a = nI (zov (st.1 s).1 (st.1 s).2.1 a)) → zRn X 15 0 0 MX12_flip 17 [some (.ref 98), some (.int (nI s)), some (.int (nI k)), none] [] (zWd I (zMW A W (A 99) T) t) (zQb_ (zPd st s (zFl_ (st.1 s))) I A t (nI (zhe (st.1 s).1 (zov (st.1 s).1 (st.1 s).2.1)))) := by
        have HT : ∀ T, zMR (zMW A W (A 99) T) s (st.1 s).1 (st.1 s).2.1 (st.1 s).2.2.1 (st.1 s).2.2.2 := fun T => by
          have e1 : va_up (va_up A 100 W) 99 (A 99) = va_up A 100 W := by
            have : A 99 = va_up A 100 W 99 := by rw [zup_ne (by decide)]
            rw [this, zup_self]
          unfold zMW
          rw [e1]
          exact (H.up (p := 100) (by decide)).up (p := 112) (by decide)
        refine zdown ?_ ?_
        · intro T hT
          refine bX12_flip_17 _ _ _ (zvRd ob_98 (m_many (HT T)) (by decide) ?_)
          rw [if_pos (Int32.le_refl _)]
          exact layU 0 (Nat.zero_le _) (A 99) T hT (fun a ha => absurd ha (Nat.not_lt_zero _)) (fun _ _ => rfl)
        · intro k hk ih T hT
          refine bX12_flip_17 _ _ _ (zvRd ob_98 (m_many (HT T)) (by decide) ?_)
          rw [zi_le (by omega) (by omega), if_neg (by omega)]
          refine ⟨_, fr_98_25.rd, zvRd ob_98 (m_over (HT T) (by omega)) (by decide) ⟨_, ar_112.wr (by omega), ?_⟩⟩
          rw [zMW_112, zMW_s112, nI_1]
          refine ih _ (fun a ha => ?_)
          by_cases e : a = k
          · rw [e, upd_eq]
          · rw [upd_ne _ _ e]
            exact hT a (by omega)
      have k0 := turnU 0 (Nat.zero_le _) (A 112) (fun a ha => absurd ha (Nat.not_lt_zero _))
      rw [zMW_id] at k0
      exact k0
  · refine zAc.mk (-2) st 6 6 (by decide) (by decide) (fun I A t hC => ?_) (fun I A t hM => ?_)
    · exact eX11_flip _ _ (bX11_flip_0 _ _ (zvO0 ob_0 (v_orderIn0 hC.1 hn) (by decide) (zQa.id hC)))
    · refine eX12_flip _ _ (bX12_flip_0 _ _ (zvRd ob_98 (m_ord0 hM.m3 hn) (by decide) ?_))
      rw [if_pos rfl]
      exact zQb_.id hM
end ZF2_
