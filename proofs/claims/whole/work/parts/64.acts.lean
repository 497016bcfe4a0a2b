/-! ===== acts: the model's past; undo, drops ===== -/
def zPM (I A I' A' : zF2) : Prop := ∀ st, zMIv st I A → zMIv st I' A'
def zPC (I A I' A' : zF2) : Prop := ∀ st, zCI st I A → zCI st I' A'
theorem zHiE.pm {I A I' A' : zF2} (h : zHiE I A I' A') : zPM I A I' A' := fun _ H => h.mi H
theorem zLoE.pc {I A I' A' : zF2} (h : zLoE I A I' A') : zPC I A I' A' := fun _ H => h.ci H
theorem zKp.pm {I A I' A' : zF2} (h : zKp I A I' A') : zPM I A I' A' := fun _ H => h.mi H
theorem zKp.pc {I A I' A' : zF2} (h : zKp I A I' A') : zPC I A I' A' := fun _ H => h.ci H
theorem zPM.trans {I A I' A' I2 A2 : zF2} (h : zPM I A I' A') (g : zPM I' A' I2 A2) : zPM I A I2 A2 := fun st H => g st (h st H)
theorem zPC.trans {I A I' A' I2 A2 : zF2} (h : zPC I A I' A') (g : zPC I' A' I2 A2) : zPC I A I2 A2 := fun st H => g st (h st H)
abbrev zQa (st' : zSt) (I A : zF2) (t : zW) (r : Int32) : Option Value → zW → Prop := fun v w1 => v = some (.int r) ∧ ∃ I' A', w1 = zWd I' A' t ∧ zCI st' I' A' ∧ zPM I A I' A'
abbrev zQb_ (st' : zSt) (I A : zF2) (t : zW) (r : Int32) : Option Value → zW → Prop := fun v w1 => v = some (.int r) ∧ ∃ I' A', w1 = zWd I' A' t ∧ zMIv st' I' A' ∧ zPC I A I' A'
/-- a call that both answer alike, and after which both stand alike -/
def zAc (X : zX) (M N : zM) (av : List Value) (st : zSt) : Prop := ∃ r st', (∀ I A t, zCI st I A → zCall X 90 M (.ref 0 :: av) (zWd I A t) (zQa st' I A t r)) ∧ ∀ I A t, zMIv st I A → zCall X 90 N (.ref 98 :: av) (zWd I A t) (zQb_ st' I A t r)
theorem zSame.ac {X : zX} {M N : zM} {av : List Value} {st : zSt} (h : zSame X M N av st.1) : zAc X M N av st := by
  obtain ⟨r, h1, h2⟩ := h
  refine ⟨r, st, fun I A t hC => ?_, fun I A t hM => ?_⟩
  · obtain ⟨d1, Q1, g1, g2, g3⟩ := h1 I A t hC.1
    refine ⟨d1, Q1, g1, g2, fun v w1 q => ?_⟩
    obtain ⟨e, I', A', ew, hk⟩ := g3 v w1 q
    exact ⟨e, I', A', ew, hk.ci hC, hk.pm⟩
  · obtain ⟨d1, Q1, g1, g2, g3⟩ := h2 I A t hM.m3
    refine ⟨d1, Q1, g1, g2, fun v w1 q => ?_⟩
    obtain ⟨e, I', A', ew, hk⟩ := g3 v w1 q
    exact ⟨e, I', A', ew, hk.mi hM, hk.pc⟩
theorem zAc.mk {X : zX} {M N : zM} {av : List Value} {st : zSt} (r : Int32) (st' : zSt) (d1 d2 : Nat) (hd1 : d1 < 90) (hd2 : d2 < 90) (h1 : ∀ I A t, zCI st I A → zEv X d1 0 0 M (.ref 0 :: av) (zWd I A t) (zQa st' I A t r)) (h2 : ∀ I A t, zMIv st I A → zEv X d2 0 0 N (.ref 98 :: av) (zWd I A t) (zQb_ st' I A t r)) : zAc X M N av st := ⟨r, st', fun I A t hC => ⟨d1, _, hd1, h1 I A t hC, fun _ _ q => q⟩, fun I A t hM => ⟨d2, _, hd2, h2 I A t hM, fun _ _ q => q⟩⟩
theorem zQa.id {st : zSt} {I A : zF2} {t : zW} {r : Int32} (H : zCI st I A) : zQa st I A t r (some (.int r)) (zWd I A t) := ⟨rfl, I, A, rfl, H, fun _ h => h⟩
theorem zQb_.id {st : zSt} {I A : zF2} {t : zW} {r : Int32} (H : zMIv st I A) : zQb_ st I A t r (some (.int r)) (zWd I A t) := ⟨rfl, I, A, rfl, H, fun _ h => h⟩
theorem zEn_lt {x : zSl} (h : zVl x) (k : Nat) : zEn x k < 256 := by
  obtain ⟨h1, h2, -⟩ := h
  unfold zEn
  have h8 := h1.1
  have h6 := h2.1
  split
  · omega
  · split
    · exact h1.u31 _
    · split
      · omega
      · by_cases c : (k - 10) / 8 < x.2.2.1 ∧ (k - 10) % 8 < x.1
        · have := h2.2.1 _ _ c.1 c.2
          omega
        · rw [h2.2.2.2 _ _ (by omega)]
          omega
theorem zEs_lt {S : Nat → zSl} (h : ∀ s, s < 3 → zVl (S s)) {k : Nat} (hk : k < 174) : zEs S k < 256 := zEn_lt (h _ (by omega)) _
theorem zEn_ext {x y : zSl} (hx : zVl x) (hy : zVl y) (h : ∀ k, k < 58 → zEn x k = zEn y k) : x = y := by
  have e0 : x.1 = y.1 := h 0 (by decide)
  have e9 : x.2.2.1 = y.2.2.1 := h 9 (by decide)
  have h8 := hx.1.1
  have h6 := hx.2.1.1
  refine zVl_ext hx hy e0 (fun b hb => ?_) e9 (fun r i hr hi => ?_)
  · have := h (1 + b) (by omega)
    unfold zEn at this
    rw [if_neg (by omega), if_pos (by omega), if_neg (by omega), if_pos (by omega), show 1 + b - 1 = b by omega] at this
    exact this
  · have := h (10 + 8 * r + i) (by omega)
    unfold zEn at this
    rw [if_neg (by omega), if_neg (by omega), if_neg (by omega), if_neg (by omega), if_neg (by omega), if_neg (by omega), show (10 + 8 * r + i - 10) / 8 = r by omega, show (10 + 8 * r + i - 10) % 8 = i by omega] at this
    exact this
theorem zEs_ext {S S' : Nat → zSl} (hx : ∀ s, s < 3 → zVl (S s)) (hy : ∀ s, s < 3 → zVl (S' s)) (h : ∀ k, k < 174 → zEs S k = zEs S' k) : ∀ s, s < 3 → S s = S' s := fun s hs => zEn_ext (hx s hs) (hy s hs) (fun k hk => by
  have := h (58 * s + k) (by omega)
  unfold zEs at this
  rw [show (58 * s + k) / 58 = s by omega, show (58 * s + k) % 58 = k by omega] at this
  exact this)
theorem zEs_up (S : Nat → zSl) (s k : Nat) (y : zSl) (hk : k < 58) : zEs (va_up S s y) (58 * s + k) = zEn y k := by
  unfold zEs
  rw [show (58 * s + k) / 58 = s by omega, show (58 * s + k) % 58 = k by omega, zup_eq]
theorem zEs_ne (S : Nat → zSl) (s k : Nat) (y : zSl) (hk : k < 58 * s ∨ 58 * s + 58 ≤ k) : zEs (va_up S s y) k = zEs S k := by
  unfold zEs
  rw [zup_ne (by omega)]
theorem zSg_put {A A' : zF2} {S : Nat → zSl} {s : Nat} {y : zSl} (h : zSg A (zEs S)) (h1 : ∀ k, k < 58 → A' 99 (58 * s + k) = nI (zEn y k)) (h2 : ∀ j, (j < 58 * s ∨ 58 * s + 58 ≤ j) → A' 99 j = A 99 j) : zSg A' (zEs (va_up S s y)) := fun k hk => by
  by_cases c : k < 58 * s ∨ 58 * s + 58 ≤ k
  · rw [h2 k c, h k hk, zEs_ne _ _ _ _ c]
  · have e : k = 58 * s + (k - 58 * s) := by omega
    have := h1 (k - 58 * s) (by omega)
    rw [← e] at this
    rw [this]
    have e2 := zEs_up S s (k - 58 * s) y (by omega)
    rw [← e] at e2
    rw [e2]
section ZMa
variable {X : zX} {I A : zF2} {t : zW} {s n : Nat}
/- raw reads -/
theorem r_many (hs : s < 3) (h : A 99 (58 * s) = nI n) : zRd X 1 MX12_many [.ref 98, .int (nI s)] (zWd I A t) (nI n) := by
  have h1 := m_of (X := X) (I := I) (A := A) (t := t) hs (k := 0) (by decide)
  rw [Nat.add_zero, h] at h1
  exact eX12_many _ _ (bX12_many_0 _ _ (zvRd ob_98 h1 (by decide) ⟨rfl, rfl⟩))
theorem r_rows (hs : s < 3) (h : A 99 (58 * s + 9) = nI n) : zRd X 1 MX12_rows [.ref 98, .int (nI s)] (zWd I A t) (nI n) := by
  have h1 := m_of (X := X) (I := I) (A := A) (t := t) hs (k := 9) (by decide)
  rw [h] at h1
  exact eX12_rows _ _ (bX12_rows_0 _ _ (zvRd ob_98 h1 (by decide) ⟨rfl, rfl⟩))
theorem r_under (hs : s < 3) {b : Nat} (hb : b < 8) (h : A 99 (58 * s + 1 + b) = nI n) : zRd X 1 MX12_under [.ref 98, .int (nI s), .int (nI b)] (zWd I A t) (nI n) := by
  have h1 := m_of (X := X) (I := I) (A := A) (t := t) hs (k := 1 + b) (by omega)
  rw [← Nat.add_assoc, h] at h1
  refine eX12_under _ _ _ (bX12_under_0 _ _ _ (zvRd ob_98 (d1 := 0) ?_ (by decide) ⟨rfl, rfl⟩))
  show zRd X 0 MX12_of [.ref 98, .int (nI s), .int (nI 1 + nI b)] _ _
  rw [nI_add]
  exact h1
theorem r_rowAt (hs : s < 3) {r i : Nat} (hr : r < 6) (hi : i < 8) (h : A 99 (58 * s + 10 + 8 * r + i) = nI n) : zRd X 1 MX12_rowAt [.ref 98, .int (nI s), .int (nI r), .int (nI i)] (zWd I A t) (nI n) := by
  have h1 := m_of (X := X) (I := I) (A := A) (t := t) hs (k := 10 + 8 * r + i) (by omega)
  rw [show 58 * s + (10 + 8 * r + i) = 58 * s + 10 + 8 * r + i by omega, h] at h1
  refine eX12_rowAt _ _ _ _ (bX12_rowAt_0 _ _ _ _ (zvRd ob_98 (d1 := 0) ?_ (by decide) ⟨rfl, rfl⟩))
  show zRd X 0 MX12_of [.ref 98, .int (nI s), .int (nI 10 + nI 8 * nI r + nI i)] _ _
  rw [pk_mul, nI_add, nI_add]
  exact h1
theorem m_lays {k : Nat} (hs : s < 3) (hk : k < 58) (x : Int32) : zEv X 0 0 0 MX12_lays [.ref 98, .int (nI s), .int (nI k), .int x] (zWd I A t) (fun v w1 => v = none ∧ w1 = zWd I (va_up A 99 (upd (A 99) (58 * s + k) x)) t) := by
  refine eX12_lays _ _ _ _ (bX12_lays_0 _ _ _ _ ⟨_, fr_98_0.rd, zWd I (va_up A 99 (upd (A 99) (58 * s + k) x)) t, ?_, rfl, rfl⟩)
  show zsI _ _ (nI 58 * nI s + nI k) _ = _
  rw [pk_mul, nI_add]
  exact ar_99.wr (by omega)
theorem m_remembers : zEv X 0 0 0 MX12_remembers [.ref 98] (zWd I A t) (fun v w1 => v = none ∧ ∃ W, w1 = zWd I (va_up A 100 W) t ∧ ∀ k, k < 174 → W k = A 99 k) := by
  refine eX12_remembers _ (bX12_remembers_0 _ ?_)
  have key : ∀ k, k ≤ 174 → ∀ W : Nat → Int32, (∀ j, j < k → W j = A 99 j) → zRn X 0 0 0 MX12_remembers 2 [some (.ref 98), some (.int (nI k))] [] (zWd I (va_up A 100 W) t) (fun v w1 => v = none ∧ ∃ W, w1 = zWd I (va_up A 100 W) t ∧ ∀ k, k < 174 → W k = A 99 k) := by
    refine zdown ?_ ?_
    · intro W hW
      refine bX12_remembers_2 _ _ ?_
      rw [if_pos (by decide)]
      exact ⟨rfl, W, rfl, hW⟩
    · intro k hk ih W hW
      refine bX12_remembers_2 _ _ ?_
      show if nI 174 ≤ nI k then _ else _
      rw [zi_le (by decide) (by omega), if_neg (by omega)]
      refine ⟨_, fr_98_1.rd, _, fr_98_0.rd, _, ar_99.rd hk, _, ar_100.wr hk, ?_⟩
      rw [zup_eq, bx_uu, nI_1, zup_ne (by decide)]
      refine ih _ (fun j hj => ?_)
      by_cases e : j = k
      · rw [e, upd_eq]
      · rw [upd_ne _ _ e]
        exact hW j (by omega)
  have k0 := key 0 (Nat.zero_le _) (A 100) (fun j hj => absurd hj (Nat.not_lt_zero _))
  rw [zup_self] at k0
  exact k0
theorem m_empties (hs : s < 3) : zEv X 1 0 0 MX12_empties [.ref 98, .int (nI s)] (zWd I A t) (fun v w1 => v = none ∧ ∃ D, w1 = zWd I (va_up A 99 D) t ∧ (∀ k, k < 58 → D (58 * s + k) = 0) ∧ ∀ j, (j < 58 * s ∨ 58 * s + 58 ≤ j) → D j = A 99 j) := by
  refine eX12_empties _ _ (bX12_empties_0 _ _ ?_)
  have key : ∀ k, k ≤ 58 → ∀ D : Nat → Int32, (∀ j, j < k → D (58 * s + j) = 0) → (∀ j, (j < 58 * s ∨ 58 * s + 58 ≤ j) → D j = A 99 j) → zRn X 1 0 0 MX12_empties 2 [some (.ref 98), some (.int (nI s)), some (.int (nI k))] [] (zWd I (va_up A 99 D) t) (fun v w1 => v = none ∧ ∃ D, w1 = zWd I (va_up A 99 D) t ∧ (∀ k, k < 58 → D (58 * s + k) = 0) ∧ ∀ j, (j < 58 * s ∨ 58 * s + 58 ≤ j) → D j = A 99 j) := by
    refine zdown ?_ ?_
    · intro D h1 h2
      refine bX12_empties_2 _ _ _ ?_
      rw [if_pos (by decide)]
      exact ⟨rfl, D, rfl, h1, h2⟩
    · intro k hk ih D h1 h2
      refine bX12_empties_2 _ _ _ ?_
      show if nI 58 ≤ nI k then _ else _
      rw [zi_le (by decide) (by omega), if_neg (by omega)]
      refine zvV ob_98 (m_lays hs hk 0) (by decide) ?_
      rintro w1 rfl
      rw [zup_eq, bx_uu, nI_1]
      refine ih _ (fun j hj => ?_) (fun j hj => ?_)
      · by_cases e : j = k
        · rw [e, upd_eq]
        · rw [upd_ne _ _ (by omega)]
          exact h1 j (by omega)
      · rw [upd_ne _ _ (by omega)]
        exact h2 j hj
  have k0 := key 0 (Nat.zero_le _) (A 99) (fun j hj => absurd hj (Nat.not_lt_zero _)) (fun _ _ => rfl)
  rw [zup_self] at k0
  exact k0
theorem m_keeps {L : List (Nat → zSl)} {tp ou : zBy} {f1 f2 : Int32} {S : Nat → zSl} (H : zMX L tp ou f1 f2 I A) (hS : ∀ s, s < 3 → zVl (S s)) (hW : ∀ k, k < 174 → A 100 k = nI (zEs S k)) (v : Int32) : zEv X 0 0 0 MX12_keeps [.ref 98, .int v] (zWd I A t) (fun r w1 => r = some (.int v) ∧ ∃ c K, w1 = zWd (zIf I 3 c) (va_up A 101 K) t ∧ zMX ((S :: L).take 10) tp ou f1 f2 (zIf I 3 c) (va_up A 101 K)) := by
  obtain ⟨⟨a1, a2, a3⟩, hb, hc, hd1, hd2⟩ := H
  have part2 : ∀ (c0 : Int32) (K : Nat → Int32) (m0 : Nat), m0 < 10 → c0 = nI m0 → zRn X 0 0 0 MX12_keeps 50 [some (.ref 98), some (.int v), none] [] (zWd (zIf I 3 c0) (va_up A 101 K) t) (fun r w1 => r = some (.int v) ∧ ∃ K', w1 = zWd (zIf I 3 (nI (m0 + 1))) (va_up A 101 K') t ∧ (∀ k, k < 174 → K' (174 * m0 + k) = A 100 k) ∧ ∀ j, j < 174 * m0 → K' j = K j) := by
    rintro c0 K m0 hm rfl
    refine bX12_keeps_50 _ _ ?_
    have key : ∀ k, k ≤ 174 → ∀ K' : Nat → Int32, (∀ j, j < k → K' (174 * m0 + j) = A 100 j) → (∀ j, j < 174 * m0 → K' j = K j) → zRn X 0 0 0 MX12_keeps 52 [some (.ref 98), some (.int v), some (.int (nI k))] [] (zWd (zIf I 3 (nI m0)) (va_up A 101 K') t) (fun r w1 => r = some (.int v) ∧ ∃ K', w1 = zWd (zIf I 3 (nI (m0 + 1))) (va_up A 101 K') t ∧ (∀ k, k < 174 → K' (174 * m0 + k) = A 100 k) ∧ ∀ j, j < 174 * m0 → K' j = K j) := by
      refine zdown ?_ ?_
      · intro K' h1 h2
        refine bX12_keeps_52 _ _ _ ?_
        rw [if_pos (by decide)]
        refine ⟨_, fi_98_3.rd, _, fi_98_3.wr, rfl, K', ?_, h1, h2⟩
        rw [zIf_eq, zIf_s, nI_1]
      · intro k hk ih K' h1 h2
        refine bX12_keeps_52 _ _ _ ?_
        show if nI 174 ≤ nI k then _ else _
        rw [zi_le (by decide) (by omega), if_neg (by omega)]
        refine ⟨_, fr_98_2.rd, _, fi_98_3.rd, _, fr_98_1.rd, _, ar_100.rd hk, zWd (zIf I 3 (nI m0)) (va_up A 101 (upd K' (174 * m0 + k) (A 100 k))) t, ?_, ?_⟩
        · rw [zIf_eq]
          show zsI _ _ (nI 174 * nI m0 + nI k) _ = _
          rw [pk_mul, nI_add, ar_101.wr (by omega), zup_eq, bx_uu, zup_ne (by decide)]
        · rw [nI_1]
          refine ih _ (fun j hj => ?_) (fun j hj => ?_)
          · by_cases e : j = k
            · rw [e, upd_eq]
            · rw [upd_ne _ _ (by omega)]
              exact h1 j (by omega)
          · rw [upd_ne _ _ (by omega)]
            exact h2 j hj
    exact key 0 (Nat.zero_le _) K (fun j hj => absurd hj (Nat.not_lt_zero _)) (fun _ _ => rfl)
  have rest : ∀ (c : Int32) (K : Nat → Int32), ((tp.1 ≤ 400 ∧ zIf I 3 c 98 5 = nI tp.1 ∧ ∀ i, i < tp.1 → va_up A 101 K 102 i = nI (tp.2 i) ∧ tp.2 i < 256) ∧ (ou.1 ≤ 160 ∧ zIf I 3 c 98 28 = nI ou.1 ∧ ∀ i, i < ou.1 → va_up A 101 K 114 i = nI (ou.2 i) ∧ ou.2 i < 256) ∧ zIf I 3 c 98 6 = f1 ∧ zIf I 3 c 98 7 = f2) := fun c K => by
    rw [zIf_ne _ _ (by decide), zIf_ne _ _ (by decide), zIf_ne _ _ (by decide), zIf_ne _ _ (by decide), zup_ne (by decide), zup_ne (by decide)]
    exact ⟨hb, hc, hd1, hd2⟩
  refine eX12_keeps _ _ (bX12_keeps_0 _ _ ⟨_, fi_98_3.rd, ?_⟩)
  rw [a2]
  show if nI L.length = nI 10 then _ else _
  rw [zi_eq (by omega) (by decide)]
  by_cases c : L.length = 10
  · rw [if_pos c]
    have shift : ∀ k, k ≤ 1566 → ∀ K : Nat → Int32, (∀ j, j < k → K j = A 101 (j + 174)) → (∀ j, k ≤ j → K j = A 101 j) → zRn X 0 0 0 MX12_keeps 11 [some (.ref 98), some (.int v), some (.int (nI k))] [] (zWd I (va_up A 101 K) t) (fun r w1 => r = some (.int v) ∧ ∃ c K, w1 = zWd (zIf I 3 c) (va_up A 101 K) t ∧ zMX ((S :: L).take 10) tp ou f1 f2 (zIf I 3 c) (va_up A 101 K)) := by
      refine zdown ?_ ?_
      · intro K h1 h2
        refine bX12_keeps_11 _ _ _ ?_
        rw [if_pos (by decide)]
        refine ⟨_, fi_98_3.rd, _, fi_98_3.wr, ?_⟩
        rw [a2, c]
        refine (part2 _ K 9 (by decide) (by decide)).conseq ?_
        rintro r w1 ⟨rfl, K', rfl, k1, k2⟩
        refine ⟨rfl, _, K', rfl, ⟨?_, ?_, fun j H hj => ?_⟩, rest _ _⟩
        · rw [List.length_take]
          omega
        · rw [zIf_eq, List.length_take, List.length_cons, c]
          rfl
        · have hlen : ((S :: L).take 10).length = 10 := by
            rw [List.length_take, List.length_cons, c]
            rfl
          have hj10 : j < 10 := by
            have := (List.getElem?_eq_some_iff.mp hj).1
            omega
          rw [hlen, zup_eq]
          rw [List.getElem?_take_of_lt hj10] at hj
          cases j with
          | zero =>
            simp at hj
            subst hj
            exact ⟨fun k hk => by rw [show 174 * (10 - 1 - 0) + k = 174 * 9 + k by omega, k1 k hk]; exact hW k hk, hS⟩
          | succ j =>
            rw [List.getElem?_cons_succ] at hj
            obtain ⟨g1, g2⟩ := a3 j H hj
            refine ⟨fun k hk => ?_, g2⟩
            rw [k2 _ (by omega), h1 _ (by omega)]
            have := g1 k hk
            rw [c] at this
            rw [show 174 * (10 - 1 - (j + 1)) + k + 174 = 174 * (10 - 1 - j) + k by omega]
            exact this
      · intro k hk ih K h1 h2
        refine bX12_keeps_11 _ _ _ ?_
        show if nI 1566 ≤ nI k then _ else _
        rw [zi_le (by decide) (by omega), if_neg (by omega)]
        refine ⟨_, fr_98_2.rd, _, fr_98_2.rd, A 101 (k + 174), ?_, zWd I (va_up A 101 (upd K k (A 101 (k + 174)))) t, ?_, ?_⟩
        · show zaI _ _ (nI k + nI 174) = _
          rw [nI_add, ar_101.rd (by omega), zup_eq, h2 _ (by omega)]
        · rw [ar_101.wr (by omega), zup_eq, bx_uu]
        · rw [nI_1]
          refine ih _ (fun j hj => ?_) (fun j hj => ?_)
          · by_cases e : j = k
            · rw [e, upd_eq]
            · rw [upd_ne _ _ e]
              exact h1 j (by omega)
          · rw [upd_ne _ _ (by omega)]
            exact h2 j (by omega)
    have s0 := shift 0 (Nat.zero_le _) (A 101) (fun j hj => absurd hj (Nat.not_lt_zero _)) (fun _ _ => rfl)
    rw [zup_self] at s0
    exact s0
  · rw [if_neg c]
    have p2 := part2 (nI L.length) (A 101) L.length (by omega) rfl
    have e1 : zIf I 3 (nI L.length) = I := by
      unfold zIf
      funext p
      by_cases e : p = 98
      · subst e
        rw [zup_eq]
        funext k
        by_cases e2 : k = 3
        · subst e2
          rw [upd_eq, a2]
        · rw [upd_ne _ _ e2]
      · rw [zup_ne e]
    rw [e1, zup_self] at p2
    refine p2.conseq ?_
    rintro r w1 ⟨rfl, K', rfl, k1, k2⟩
    have hlen : ((S :: L).take 10).length = L.length + 1 := by
      rw [List.length_take, List.length_cons]
      omega
    refine ⟨rfl, _, K', rfl, ⟨?_, ?_, fun j H hj => ?_⟩, rest _ _⟩
    · omega
    · rw [zIf_eq, hlen]
    · have hj10 : j < 10 := by
        have := (List.getElem?_eq_some_iff.mp hj).1
        omega
      rw [hlen, zup_eq]
      rw [List.getElem?_take_of_lt hj10] at hj
      cases j with
      | zero =>
        simp at hj
        subst hj
        exact ⟨fun k hk => by rw [show 174 * (L.length + 1 - 1 - 0) + k = 174 * L.length + k by omega, k1 k hk]; exact hW k hk, hS⟩
      | succ j =>
        rw [List.getElem?_cons_succ] at hj
        obtain ⟨g1, g2⟩ := a3 j H hj
        have hjl := (List.getElem?_eq_some_iff.mp hj).1
        refine ⟨fun k hk => ?_, g2⟩
        rw [k2 _ (by omega)]
        have := g1 k hk
        rw [show 174 * (L.length + 1 - 1 - (j + 1)) + k = 174 * (L.length - 1 - j) + k by omega]
        exact this
theorem m_done {L : List (Nat → zSl)} {tp ou : zBy} {f1 f2 : Int32} {S S' : Nat → zSl} (H : zMX L tp ou f1 f2 I A) (hS : ∀ s, s < 3 → zVl (S s)) (hS' : ∀ s, s < 3 → zVl (S' s)) (hW : ∀ k, k < 174 → A 100 k = nI (zEs S k)) (hG : zSg A (zEs S')) (v : Int32) : zEv X 1 0 0 MX12_done [.ref 98, .int v] (zWd I A t) (fun r w1 => r = some (.int v) ∧ (((∀ s, s < 3 → S s = S' s) ∧ w1 = zWd I A t) ∨ ((¬ ∀ s, s < 3 → S s = S' s) ∧ ∃ c K, w1 = zWd (zIf I 3 c) (va_up A 101 K) t ∧ zMX ((S :: L).take 10) tp ou f1 f2 (zIf I 3 c) (va_up A 101 K)))) := by
  refine eX12_done _ _ (bX12_done_0 _ _ ?_)
  have key : ∀ k, k ≤ 174 → (∀ j, j < k → zEs S j = zEs S' j) → zRn X 1 0 0 MX12_done 2 [some (.ref 98), some (.int v), some (.int (nI k))] [] (zWd I A t) (fun r w1 => r = some (.int v) ∧ (((∀ s, s < 3 → S s = S' s) ∧ w1 = zWd I A t) ∨ ((¬ ∀ s, s < 3 → S s = S' s) ∧ ∃ c K, w1 = zWd (zIf I 3 c) (va_up A 101 K) t ∧ zMX ((S :: L).take 10) tp ou f1 f2 (zIf I 3 c) (va_up A 101 K)))) := by
    refine zdown ?_ ?_
    · intro h
      refine bX12_done_2 _ _ _ ?_
      rw [if_pos (by decide)]
      exact ⟨rfl, Or.inl ⟨zEs_ext hS hS' h, rfl⟩⟩
    · intro k hk ih h
      refine bX12_done_2 _ _ _ ?_
      show if nI 174 ≤ nI k then _ else _
      rw [zi_le (by decide) (by omega), if_neg (by omega)]
      have l1 := zEs_lt hS hk
      have l2 := zEs_lt hS' hk
      refine ⟨_, fr_98_1.rd, _, ar_100.rd hk, _, fr_98_0.rd, _, ar_99.rd hk, ?_⟩
      rw [hW k hk, hG k hk, zi_eq (by omega) (by omega)]
      by_cases c : zEs S k = zEs S' k
      · rw [if_pos c, nI_1]
        refine ih (fun j hj => ?_)
        rcases Nat.lt_or_ge j k with q | q
        · exact h j q
        · have : j = k := by omega
          subst this
          exact c
      · rw [if_neg c]
        refine zvI1 ob_98 (m_keeps H hS hW v) (by decide) ?_
        rintro w1 ⟨c', K, rfl, hK⟩
        refine ⟨rfl, Or.inr ⟨fun e => c ?_, c', K, rfl, hK⟩⟩
        unfold zEs
        rw [e _ (by omega)]
  exact key 0 (Nat.zero_le _) (fun j hj => absurd hj (Nat.not_lt_zero _))
theorem zup_same {S : Nat → zSl} {s : Nat} {y : zSl} (hs : s < 3) : (∀ s', s' < 3 → S s' = va_up S s y s') ↔ S s = y := by
  constructor
  · intro h
    have := h s hs
    rw [zup_eq] at this
    exact this
  · intro h s' _
    by_cases e : s' = s
    · rw [e, zup_eq]
      exact h
    · rw [zup_ne e]
/-- the model's act is over: the state is laid, the past is laid -/
theorem zMI_push {st : zSt} {s : Nat} {y : zSl} {c : Int32} {K : Nat → Int32} {I1 A1 : zF2} (hM : zMIv st I A) (hy : zVl y) (hG : zSg A1 (zEs (va_up st.1 s y))) (hX : zMX ((st.1 :: st.2.1).take 10) st.2.2.1 st.2.2.2.1 st.2.2.2.2.1 st.2.2.2.2.2 (zIf I1 3 c) (va_up A1 101 K)) : zMIv (zPu st s y) (zIf I1 3 c) (va_up A1 101 K) := by
  refine ⟨fun k hk => ?_, fun s' hs' => ?_, hX⟩
  · rw [zup_ne (by decide)]
    exact hG k hk
  · show zVl (va_up st.1 s y s')
    by_cases e : s' = s
    · rw [e, zup_eq]
      exact hy
    · rw [zup_ne e]
      exact hM.2.1 s' hs'
theorem zup_valid {st : zSt} {s : Nat} {y : zSl} (h : ∀ s, s < 3 → zVl (st.1 s)) (hy : zVl y) : ∀ s', s' < 3 → zVl (va_up st.1 s y s') := fun s' hs' => by
  by_cases e : s' = s
  · rw [e, zup_eq]
    exact hy
  · rw [zup_ne e]
    exact h s' hs'
end ZMa
section ZU
variable {X : zX} {st : zSt} {x : Int32}
theorem a_undo : zAc X MX11_undo MX12_undo [] st := by
  obtain ⟨S, L, rest⟩ := st
  cases L with
  | nil =>
    refine zAc.mk (-1) (S, [], rest) 5 5 (by decide) (by decide) (fun I A t hC => ?_) (fun I A t hM => ?_)
    · have p2 : I 22 3 = nI 0 := hC.2.2.1.2.1
      have hl : zRd X 1 MX6_latestSlot [.ref 22] (zWd I A t) (-1) := by
        refine eX6_latestSlot _ (bX6_latestSlot_0 _ ⟨_, fi_22_3.rd, ?_⟩)
        rw [p2, if_pos (by decide)]
        exact ⟨rfl, rfl⟩
      refine eX11_undo _ (bX11_undo_0 _ ⟨_, fr_0_2.rd, zvRd ob_22 hl (by decide) (zcRd (v_isSlot _) (by decide) ?_)⟩)
      rw [zB_f (by decide)]
      exact zQa.id hC
    · have p2 : I 98 3 = nI 0 := hM.2.2.1.2.1
      refine eX12_undo _ (bX12_undo_0 _ ⟨_, fi_98_3.rd, ?_⟩)
      rw [p2, if_pos (by decide)]
      exact zQb_.id hM
  | cons H L =>
    refine zAc.mk (nI L.length) (H, L, rest) 5 5 (by decide) (by decide) (fun I A t hC => ?_) (fun I A t hM => ?_)
    · obtain ⟨h1, h2, ⟨p1, p2, hd, p3, p4, ⟨⟨s, x, q1, q2, q3, q4, q5⟩, p6⟩⟩, h4, h5, h6, h7⟩ := hC
      have p1 : L.length + 1 ≤ 10 := p1
      have p2 : I 22 3 = nI (L.length + 1) := p2
      have hlt := zix_lt hd 0
      have e0 : zix hd 0 = if hd = 0 then 9 else hd - 1 := by
        unfold zix
        split <;> omega
      have hlat : ∀ A, zRd X 0 MX6_latest [.ref 22] (zWd I A t) (nI (zix hd 0)) := fun A => by
        refine eX6_latest _ (bX6_latest_0 _ ⟨_, fi_22_2.rd, ?_⟩)
        rw [p4, zi_0 (by omega), e0]
        by_cases c : hd = 0
        · rw [if_pos c, if_pos c]
          exact ⟨rfl, rfl⟩
        · rw [if_neg c, if_neg c]
          refine ⟨_, fi_22_2.rd, ?_, rfl⟩
          rw [p4]
          show some (Value.int (nI hd - nI 1)) = _
          rw [pk_sub (by omega)]
      have hl : zRd X 1 MX6_latestSlot [.ref 22] (zWd I A t) (nI s) := by
        refine eX6_latestSlot _ (bX6_latestSlot_0 _ ⟨_, fi_22_3.rd, ?_⟩)
        rw [p2, zi_0 (by omega), if_neg (by omega)]
        refine ⟨_, fr_22_1.rd, zvRd ob_22 (hlat A) (by decide) ⟨_, ar_24.rd hlt, ?_, rfl⟩⟩
        rw [q4]
      have qs : zOq (2 + 5 * s) := Or.inl ⟨s, by omega, rfl⟩
      have ev : ∀ p a cap b, zTp I A p a cap b → 75 ≤ p → 75 ≤ a → ∀ I' A', (∀ p, 75 ≤ p → A' p = A p ∧ I' p = I p) → zTp I' A' p a cap b := fun p a cap b ⟨z1, z2, z3⟩ hp ha I' A' hh => ⟨z1, by rw [(hh p hp).2]; exact z2, fun i hi => by rw [(hh a ha).1]; exact z3 i hi⟩
      refine eX11_undo _ (bX11_undo_0 _ ⟨_, fr_0_2.rd, zvRd ob_22 hl (by decide) (zcRd (v_isSlot _) (by decide) ?_)⟩)
      rw [zB_t (zin_y q1)]
      refine ⟨_, fr_0_2.rd, _, fr_0_0.rd, _, zRs q1, ?_⟩
      have give : zEv X 3 0 0 MX6_giveBack [.ref 22, .ref (2 + 5 * s)] (zWd I A t) (fun v w1 => v = none ∧ ∃ I2 A2, w1 = zWd (va_up I2 22 (upd (I2 22) 3 (nI L.length))) A2 t ∧ I2 22 2 = nI (zix hd 0) ∧ zCS I2 A2 (2 + 5 * s) x ∧ zOn (2 + 5 * s) (va_up I 22 (upd (I 22) 2 (nI (zix hd 0)))) A I2 A2) := by
        refine eX6_giveBack _ _ (bX6_giveBack_0 _ _ ⟨_, fi_22_3.rd, ?_⟩)
        rw [p2]
        show if nI _ ≤ nI 0 then _ else _
        rw [zi_le (by omega) (by decide), if_neg (by omega)]
        refine zvRd ob_22 (hlat A) (by decide) ⟨_, fi_22_2.wr, _, fr_22_0.rd, _, fi_22_2.rd, ?_⟩
        rw [zup_eq, upd_eq]
        have q5' : zCS (va_up I 22 (upd (I 22) 2 (nI (zix hd 0)))) A (25 + 5 * zix hd 0) x := q5.same (fun r hr => ⟨rfl, zup_ne (by omega)⟩)
        refine ⟨_, zRk hlt, zvV qs.ob (v_copyFrom qs (by omega) q5') (by decide) ?_⟩
        rintro w1 ⟨I2, A2, rfl, g1, g2⟩
        have e22 : I2 22 = upd (I 22) 2 (nI (zix hd 0)) := by
          rw [(g2 22 (by omega)).2, zup_eq]
        refine ⟨_, fi_22_3.rd, _, fi_22_3.wr, rfl, I2, A2, ?_, by rw [e22, upd_eq], g1, g2⟩
        have em : I2 22 3 - 1 = nI L.length := by
          rw [e22, upd_ne _ _ (by decide), p2]
          show nI (L.length + 1) - nI 1 = _
          rw [pk_sub (by omega)]
          rfl
        rw [em]
      refine zvV ob_22 give (by decide) ?_
      rintro w1 ⟨I2, A2, rfl, g0, g1, g2⟩
      generalize hI3 : va_up I2 22 (upd (I2 22) 3 (nI L.length)) = I3
      have i3 : ∀ p, p ≠ 22 → I3 p = I2 p := fun p hp => by rw [← hI3, zup_ne hp]
      have i3a : I3 22 3 = nI L.length := by rw [← hI3, zup_eq, upd_eq]
      have i3b : I3 22 2 = nI (zix hd 0) := by rw [← hI3, zup_eq, upd_ne _ _ (by decide), g0]
      have oth : ∀ p, (p < 2 + 5 * s ∨ 2 + 5 * s + 5 ≤ p) → p ≠ 22 → A2 p = A p ∧ I3 p = I p := fun p hp hp2 => by
        have z := g2 p hp
        rw [zup_ne hp2] at z
        exact ⟨z.1, (i3 p hp2).trans z.2⟩
      have a24 : A2 24 = A 24 := (g2 24 (by omega)).1
      have cs : ∀ q y, zCS I A q y → q ≠ 2 + 5 * s → zCS I3 A2 q y := fun q y hy hq => by
        have ap := qs.apart hy.1.1 (fun e => hq e.symm)
        exact hy.same (fun r hr => oth _ (by omega) (by
          rcases hy.1.1 with ⟨z, hz, rfl⟩ | ⟨z, hz, rfl⟩ <;> omega))
      have csx : zCS I3 A2 (2 + 5 * s) x := g1.same (fun r hr => ⟨rfl, i3 _ (by omega)⟩)
      have hsz : zRd X 0 MX6_size [.ref 22] (zWd I3 A2 t) (nI L.length) := eX6_size _ (bX6_size_0 _ ⟨_, fi_22_3.rd, by rw [i3a], rfl⟩)
      refine ⟨_, fr_0_2.rd, zvRd ob_22 hsz (by decide) ⟨rfl, I3, A2, rfl, ?_, zHiE.pm (fun p hp => oth p (by omega) (by omega))⟩⟩
      have hH : ∀ s', s' < 3 → s' ≠ s → H s' = S s' := fun s' _ hne => by
        rw [q2]
        exact zup_ne hne
      have hHs : H s = x := by
        rw [q2]
        exact zup_eq
      refine ⟨fun s' hs' => ?_, fun s' hs' => ?_, ⟨by show L.length ≤ 10; omega, i3a, zix hd 0, hlt, i3b, ?_⟩, ev _ _ _ _ h4 (by decide) (by decide) _ _ (fun p hp => oth p (by omega) (by omega)), ev _ _ _ _ h5 (by decide) (by decide) _ _ (fun p hp => oth p (by omega) (by omega)), by rw [(oth 79 (by omega) (by decide)).2]; exact h6, by rw [(oth 79 (by omega) (by decide)).2]; exact h7⟩
      · show zCS I3 A2 (2 + 5 * s') (H s')
        by_cases e : s' = s
        · rw [e, hHs]
          exact csx
        · rw [hH s' hs' e]
          exact cs _ _ (h1 s' hs') (by omega)
      · show zVl (H s')
        by_cases e : s' = s
        · rw [e, hHs]
          exact q3
        · rw [hH s' hs' e]
          exact h2 s' hs'
      · -- the ring without its head
        have pop : ∀ (L : List (Nat → zSl)) (j : Nat) (S : Nat → zSl), j + L.length ≤ 9 → zRg I A hd (j + 1) S L → zRg I3 A2 (zix hd 0) j S L := by
          intro L
          induction L with
          | nil => exact fun _ _ _ _ => trivial
          | cons H' L' ih =>
            intro j S hj hr
            simp only [List.length_cons] at hj
            obtain ⟨⟨s1, x1, r1, r2, r3, r4, r5⟩, r6⟩ := hr
            have e : zix (zix hd 0) j = zix hd (j + 1) := by
              unfold zix
              omega
            have lt := zix_lt hd (j + 1)
            exact ⟨⟨s1, x1, r1, r2, r3, by rw [e, a24]; exact r4, by rw [e]; exact cs _ _ r5 (by omega)⟩, ih (j + 1) H' (by omega) r6⟩
        exact pop L 0 H (by omega) p6
    · obtain ⟨g1, g2, ⟨⟨a1, a2, a3⟩, hb, hc, hd1, hd2⟩⟩ := hM
      have a1 : L.length + 1 ≤ 10 := a1
      have a2 : I 98 3 = nI (L.length + 1) := a2
      obtain ⟨b1, b2⟩ := a3 0 H rfl
      have b1 : ∀ k, k < 174 → A 101 (174 * L.length + k) = nI (zEs H k) := fun k hk => by
        have := b1 k hk
        rw [show 174 * ((H :: L).length - 1 - 0) + k = 174 * L.length + k by simp] at this
        exact this
      refine eX12_undo _ (bX12_undo_0 _ ⟨_, fi_98_3.rd, ?_⟩)
      rw [a2, zi_0 (by omega), if_neg (by omega)]
      refine ⟨_, fi_98_3.rd, _, fi_98_3.wr, ?_⟩
      have em : I 98 3 - 1 = nI L.length := by
        rw [a2]
        show nI (L.length + 1) - nI 1 = _
        rw [pk_sub (by omega)]
        rfl
      rw [em]
      have key : ∀ k, k ≤ 174 → ∀ D : Nat → Int32, (∀ j, j < k → D j = nI (zEs H j)) → zRn X 5 0 0 MX12_undo 21 [some (.ref 98), some (.int (nI k))] [] (zWd (zIf I 3 (nI L.length)) (va_up A 99 D) t) (zQb_ (H, L, rest) I A t (nI L.length)) := by
        refine zdown ?_ ?_
        · intro D hD
          refine bX12_undo_21 _ _ ?_
          rw [if_pos (by decide)]
          refine ⟨_, fi_98_3.rd, ?_⟩
          rw [zIf_eq]
          refine ⟨rfl, _, _, rfl, ⟨fun k hk => by rw [zup_eq]; exact hD k hk, b2, ⟨by show L.length ≤ 10; omega, zIf_eq _ _ _, fun j H' hj => ?_⟩, ?_, ?_, ?_, ?_⟩, (((zLoE.refl I A).a (p := 99) (by decide)).f (p := 98) (by decide)).pc⟩
          · have hjl := (List.getElem?_eq_some_iff.mp hj).1
            have := a3 (j + 1) H' (by rw [List.getElem?_cons_succ]; exact hj)
            refine ⟨fun k hk => ?_, this.2⟩
            have := this.1 k hk
            rw [show 174 * ((H :: L).length - 1 - (j + 1)) + k = 174 * (L.length - 1 - j) + k by simp only [List.length_cons]; omega] at this
            rw [zup_ne (by decide)]
            exact this
          · rw [zIf_ne _ _ (by decide), zup_ne (by decide)]
            exact hb
          · rw [zIf_ne _ _ (by decide), zup_ne (by decide)]
            exact hc
          · rw [zIf_ne _ _ (by decide)]
            exact hd1
          · rw [zIf_ne _ _ (by decide)]
            exact hd2
        · intro k hk ih D hD
          refine bX12_undo_21 _ _ ?_
          show if nI 174 ≤ nI k then _ else _
          rw [zi_le (by decide) (by omega), if_neg (by omega)]
          refine ⟨_, fr_98_0.rd, _, fr_98_2.rd, _, fi_98_3.rd, nI (zEs H k), ?_, zWd (zIf I 3 (nI L.length)) (va_up A 99 (upd D k (nI (zEs H k)))) t, ?_, ?_⟩
          · rw [zIf_eq]
            show zaI _ _ (nI 174 * nI L.length + nI k) = _
            rw [pk_mul, nI_add, ar_101.rd (by omega), zup_ne (by decide), b1 k hk]
          · rw [ar_99.wr hk, zup_eq, bx_uu]
          · rw [nI_1]
            refine ih _ (fun j hj => ?_)
            by_cases e : j = k
            · rw [e, upd_eq]
            · rw [upd_ne _ _ e]
              exact hD j (by omega)
      have k0 := key 0 (Nat.zero_le _) (A 99) (fun j hj => absurd hj (Nat.not_lt_zero _))
      rw [zup_self] at k0
      exact k0
end ZU
