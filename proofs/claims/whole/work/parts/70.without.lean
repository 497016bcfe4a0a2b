/-! ===== without ===== -/
def zsk (a b : Nat) : Nat := if b < a then b else b + 1
def zdn (a v : Nat) : Nat := if v < a then v else v - 1
def zw1 (x a : Nat) : Nat := zmk 8 (fun i => x.testBit (zsk a i))
theorem zb_w1 {x a : Nat} (hx : x < 256) (ha : a < 8) : ((nI x &&& (((1 : Int32) <<< (nI a &&& 31)) - 1)) ||| ((nI x >>> ((nI a + 1) &&& 31)) <<< (nI a &&& 31))) = nI (zw1 x a) := by
  have h1 : x / 2 ^ (a + 1) * 2 ^ a < 2 ^ 32 := by
    have e1 : x / 2 ^ (a + 1) ≤ x := Nat.div_le_self _ _
    have e2 : x / 2 ^ (a + 1) * 2 ^ a ≤ 255 * 2 ^ 7 := Nat.mul_le_mul (by omega) (Nat.pow_le_pow_right (by decide) (by omega))
    have e3 : (255 : Nat) * 2 ^ 7 < 2 ^ 32 := by decide
    omega
  rw [zb_1 a (by omega), nI_p Nat.one_le_two_pow, zb_and, nI_1, zb_shr (by omega) (by omega), zb_shl (by omega) h1, zb_or]
  congr 1
  refine zext (fun i => ?_)
  unfold zw1
  rw [Nat.testBit_or, Nat.testBit_and, Nat.testBit_two_pow_sub_one, Nat.testBit_mul_two_pow, Nat.testBit_div_two_pow, zmk_bit]
  unfold zsk
  by_cases c : i < a
  · have c8 : i < 8 := by omega
    rw [if_pos c]
    simp [c, c8, show ¬ a ≤ i by omega]
  · rw [if_neg c]
    have e : i - a + (a + 1) = i + 1 := by omega
    rw [e]
    by_cases c8 : i < 8
    · simp [c, c8, show a ≤ i by omega]
    · have : x.testBit (i + 1) = false := zbit_hi (n := 8) hx (by omega)
      simp [c8, this, c]
theorem zw1_bit {n x a i : Nat} (hn : n ≤ 8) (hx : x < 2 ^ n) : (zw1 x a).testBit i = x.testBit (zsk a i) := by
  unfold zw1
  rw [zmk_bit]
  by_cases c : i < 8
  · simp [c]
  · have : x.testBit (zsk a i) = false := zbit_hi hx (by unfold zsk; split <;> omega)
    simp [c, this]
theorem zsk_lt {n a i : Nat} (ha : a < n) : zsk a i < n ↔ i < n - 1 := by
  unfold zsk
  split <;> omega
theorem zsk_inj {a i j : Nat} (h : zsk a i = zsk a j) : i = j := by
  unfold zsk at h
  split at h <;> split at h <;> omega
theorem zsk_ne (a i : Nat) : zsk a i ≠ a := by
  unfold zsk
  split <;> omega
def zwu (n : Nat) (u : Nat → Nat) (a : Nat) : Nat → Nat := fun b => if b < n - 1 then zw1 (u (zsk a b)) a else 0
theorem zwu_lt {n : Nat} {u : Nat → Nat} (h : zPo n u) {a : Nat} (ha : a < n) (i j : Nat) : zlt (zwu n u a) i j = true ↔ zlt u (zsk a i) (zsk a j) = true := by
  show ((if j < n - 1 then zw1 (u (zsk a j)) a else 0).testBit i = true) ↔ _
  by_cases c : j < n - 1
  · rw [if_pos c, zw1_bit h.1 (h.2.1 _)]
  · rw [if_neg c]
    constructor
    · intro q
      simp at q
    · intro q
      exact absurd ((zsk_lt ha).mp (h.lt q).2) c
theorem zwu_po {n : Nat} {u : Nat → Nat} (h : zPo n u) {a : Nat} (ha : a < n) : zPo (n - 1) (zwu n u a) := by
  have key := zwu_lt h ha
  have h8 := h.1
  refine ⟨by omega, fun b => zlt_of (fun i hi => ?_), fun b hb => ?_, fun i => ?_, fun i j k h1 h2 => ?_⟩
  · cases hc : (zwu n u a b).testBit i
    · rfl
    · have := (zsk_lt ha).mp (h.lt ((key i b).mp hc)).1
      omega
  · show (if b < n - 1 then zw1 (u (zsk a b)) a else 0) = 0
    rw [if_neg (by omega)]
  · cases hc : zlt (zwu n u a) i i
    · rfl
    · have := (key i i).mp hc
      rw [h.2.2.2.1] at this
      cases this
  · exact (key i k).mpr (h.2.2.2.2 _ _ _ ((key i j).mp h1) ((key j k).mp h2))
theorem zov_wu {n : Nat} {u : Nat → Nat} (h : zPo n u) {a : Nat} (ha : a < n) (b : Nat) : zov (n - 1) (zwu n u a) b = zw1 (zov n u (zsk a b)) a := zext (fun i => by
  rw [zov_bit (zwu_po h ha), zw1_bit h.1 (zov_lt n u _), zov_bit h, Bool.eq_iff_iff]
  exact zwu_lt h ha b i)
/-- a row without a -/
def zwr (n : Nat) (f : Nat → Nat) (a i : Nat) : Nat := zdn a (f (zsk (zpl n f a) i))
def zWo (x : zSl) (a : Nat) : zSl := (x.1 - 1, zwu x.1 x.2.1 a, x.2.2.1, fun r i => if r < x.2.2.1 ∧ i < x.1 - 1 then zwr x.1 (x.2.2.2 r) a i else 0)
theorem zwr_ok {n : Nat} {f : Nat → Nat} (hn : n ≤ 8) (f1 : ∀ i, i < n → f i < n) (f2 : ∀ i j, i < n → j < n → f i = f j → i = j) {a : Nat} (ha : a < n) : (∀ i, i < n - 1 → zwr n f a i < n - 1) ∧ ∀ i j, i < n - 1 → j < n - 1 → zwr n f a i = zwr n f a j → i = j := by
  obtain ⟨p1, p2, -⟩ := zpl_ok hn f1 f2 ha
  have ne : ∀ i, i < n - 1 → f (zsk (zpl n f a) i) ≠ a := fun i hi e => by
    have h1 := (zsk_lt p1).mpr hi
    have := f2 _ _ h1 p1 (e.trans p2.symm)
    exact zsk_ne _ _ this
  refine ⟨fun i hi => ?_, fun i j hi hj e => ?_⟩
  · have h1 := f1 _ ((zsk_lt p1).mpr hi)
    have h2 := ne i hi
    unfold zwr zdn
    split <;> omega
  · have h1 := ne i hi
    have h2 := ne j hj
    unfold zwr zdn at e
    have e2 : f (zsk (zpl n f a) i) = f (zsk (zpl n f a) j) := by
      split at e <;> split at e <;> omega
    exact zsk_inj (f2 _ _ ((zsk_lt p1).mpr hi) ((zsk_lt p1).mpr hj) e2)
theorem zVl_Wo {x : zSl} {a : Nat} (hx : zVl x) (ha : a < x.1) (h1 : x.1 ≠ 1) : zVl (zWo x a) := by
  obtain ⟨hp, hH, h3⟩ := hx
  refine ⟨zwu_po hp ha, ⟨hH.1, fun r i hr hi => ?_, fun r i j hr hi hj => ?_, fun r i hri => ?_⟩, fun z => by have z : x.1 - 1 = 0 := z; omega⟩
  · have hr : r < x.2.2.1 := hr
    have hi : i < x.1 - 1 := hi
    obtain ⟨f1, f2⟩ := hH.f hr
    show (if r < x.2.2.1 ∧ i < x.1 - 1 then zwr x.1 (x.2.2.2 r) a i else 0) < x.1 - 1
    rw [if_pos ⟨hr, hi⟩]
    exact (zwr_ok hp.1 f1 f2 ha).1 i hi
  · have hr : r < x.2.2.1 := hr
    have hi : i < x.1 - 1 := hi
    have hj : j < x.1 - 1 := hj
    obtain ⟨f1, f2⟩ := hH.f hr
    show (if r < x.2.2.1 ∧ i < x.1 - 1 then zwr x.1 (x.2.2.2 r) a i else 0) = (if r < x.2.2.1 ∧ j < x.1 - 1 then zwr x.1 (x.2.2.2 r) a j else 0) → i = j
    rw [if_pos ⟨hr, hi⟩, if_pos ⟨hr, hj⟩]
    exact (zwr_ok hp.1 f1 f2 ha).2 i j hi hj
  · have hri : x.2.2.1 ≤ r ∨ x.1 - 1 ≤ i := hri
    show (if r < x.2.2.1 ∧ i < x.1 - 1 then zwr x.1 (x.2.2.2 r) a i else 0) = 0
    rw [if_neg (by omega)]
section ZW1
variable {X : zX} {I A : zF2} {t w : zW} {q n R : Nat} {h : Nat → Nat → Nat} {x : zSl}
theorem v_closeGap {m a : Nat} (hm : m < 256) (ha : a < 8) : zRd X 0 MX5_closeGap [.int (nI m), .int (nI a)] w (nI (zw1 m a)) := eX5_closeGap _ _ (bX5_closeGap_0 _ _ ⟨congrArg (fun z => some (Value.int z)) (zb_w1 hm ha), rfl⟩)
theorem m_without1 {m a : Nat} (hm : m < 256) (ha : a < 8) : zRd X 0 MX12_without1 [.int (nI m), .int (nI a)] w (nI (zw1 m a)) := eX12_without1 _ _ (bX12_without1_0 _ _ ⟨congrArg (fun z => some (Value.int z)) (zb_w1 hm ha), rfl⟩)
theorem v_rleave (hq : zOq q) (hH : zHo n R h) (hI : I (q + 3) 1 = nI R) (hA : ∀ r i, r < R → i < n → A (q + 4) (8 * r + i) = nI (h r i)) (hn : n ≤ 8) {a : Nat} (ha : a < n) : zEv X 2 0 0 MX8_leaveOut [.ref (q + 3), .int (nI a), .int (nI n)] (zWd I A t) (fun v w1 => v = none ∧ ∃ D, w1 = zWd I (va_up A (q + 4) D) t ∧ ∀ r i, r < R → i < n - 1 → D (8 * r + i) = nI (zwr n (h r) a i)) := by
  have h6 := hH.1
  refine eX8_leaveOut _ _ _ (bX8_leaveOut_0 _ _ _ ?_)
  have key : ∀ r, r ≤ R → ∀ D : Nat → Int32, (∀ r' i, r' < r → i < n - 1 → D (8 * r' + i) = nI (zwr n (h r') a i)) → (∀ m, 8 * r ≤ m → D m = A (q + 4) m) → zRn X 2 0 0 MX8_leaveOut 2 [some (.ref (q + 3)), some (.int (nI a)), some (.int (nI n)), some (.int (nI r)), none, none, none] [] (zWd I (va_up A (q + 4) D) t) (fun v w1 => v = none ∧ ∃ D, w1 = zWd I (va_up A (q + 4) D) t ∧ ∀ r i, r < R → i < n - 1 → D (8 * r + i) = nI (zwr n (h r) a i)) := by
    refine zdown ?_ ?_
    · intro D d1 _
      refine bX8_leaveOut_2 _ _ _ _ ⟨_, hq.rsz.rd, ?_⟩
      rw [hI, if_pos (Int32.le_refl _)]
      exact ⟨rfl, D, rfl, d1⟩
    · intro r hr ih D d1 d2
      obtain ⟨f1, f2⟩ := hH.f hr
      obtain ⟨p1, p2, -⟩ := zpl_ok hn f1 f2 ha
      refine bX8_leaveOut_2 _ _ _ _ ⟨_, hq.rsz.rd, ?_⟩
      rw [hI, zi_le (by omega) (by omega), if_neg (by omega)]
      have inner : ∀ i, i ≤ n → ∀ D : Nat → Int32, (∀ r' i, r' < r → i < n - 1 → D (8 * r' + i) = nI (zwr n (h r') a i)) → (∀ m, 8 * r + 8 ≤ m → D m = A (q + 4) m) → (∀ j, j < (if i ≤ zpl n (h r) a then i else i - 1) → D (8 * r + j) = nI (zwr n (h r) a j)) → (∀ j, i ≤ j → j < n → D (8 * r + j) = nI (h r j)) → zRn X 2 0 0 MX8_leaveOut 16 [some (.ref (q + 3)), some (.int (nI a)), some (.int (nI n)), some (.int (nI r)), some (.int (nI (if i ≤ zpl n (h r) a then i else i - 1))), some (.int (nI i)), none] [] (zWd I (va_up A (q + 4) D) t) (fun v w1 => v = none ∧ ∃ D, w1 = zWd I (va_up A (q + 4) D) t ∧ ∀ r i, r < R → i < n - 1 → D (8 * r + i) = nI (zwr n (h r) a i)) := by
        refine zdown ?_ ?_
        · intro D e1 e2 e3 e4
          refine bX8_leaveOut_16 _ _ _ _ _ _ ?_
          rw [if_pos (Int32.le_refl _), nI_1]
          rw [if_neg (by omega)] at e3
          refine ih D (fun r' i' hr' hi' => ?_) (fun m hm => e2 m (by omega))
          rcases Nat.lt_or_ge r' r with z | z
          · exact e1 r' i' z hi'
          · have : r' = r := by omega
            subst this
            exact e3 i' hi'
        · intro i hi ihi D e1 e2 e3 e4
          have hfi := f1 i hi
          have ev := e4 i (Nat.le_refl _) hi
          have rd := v_rget (X := X) (I := I) (A := va_up A (q + 4) D) (t := t) hq (r := r) (i := i) (by omega) (by omega)
          rw [zup_eq, ev] at rd
          refine bX8_leaveOut_16 _ _ _ _ _ _ ?_
          rw [zi_le (by omega) (by omega), if_neg (by omega)]
          refine zvRd hq.rob rd (by decide) ?_
          rw [zi_eq (by omega) (by omega)]
          by_cases c : h r i = a
          · have ep : i = zpl n (h r) a := f2 _ _ hi p1 (c.trans p2.symm)
            rw [if_pos c]
            refine bX8_leaveOut_62 _ _ _ _ _ _ ?_
            have et : (if i ≤ zpl n (h r) a then i else i - 1) = (if i + 1 ≤ zpl n (h r) a then i + 1 else i + 1 - 1) := by
              rw [if_pos (by omega), if_neg (by omega)]
              omega
            rw [nI_1]
            rw [et] at e3 ⊢
            exact ihi D e1 e2 e3 (fun j hj hjn => e4 j (by omega) hjn)
          · have ep : i ≠ zpl n (h r) a := fun z => c (by rw [z]; exact p2)
            rw [if_neg c, zi_le (by omega) (by omega)]
            generalize hto : (if i ≤ zpl n (h r) a then i else i - 1) = to at *
            have hton : to < n - 1 := by
              rw [← hto]
              split <;> omega
            have hsk : zsk (zpl n (h r) a) to = i := by
              rw [← hto]
              unfold zsk
              by_cases z : i ≤ zpl n (h r) a
              · rw [if_pos z, if_pos (by omega)]
              · rw [if_neg z, if_neg (by omega)]
                omega
            have hnew : zwr n (h r) a to = zdn a (h r i) := by
              unfold zwr
              rw [hsk]
            have hto1 : to + 1 = (if i + 1 ≤ zpl n (h r) a then i + 1 else i + 1 - 1) := by
              rw [← hto]
              by_cases z : i ≤ zpl n (h r) a
              · rw [if_pos z, if_pos (by omega)]
              · rw [if_neg z, if_neg (by omega)]
                omega
            have go : ∀ z : Nat, z = zwr n (h r) a to → zRn X 2 0 0 MX8_leaveOut 56 [some (.ref (q + 3)), some (.int (nI a)), some (.int (nI n)), some (.int (nI r)), some (.int (nI to)), some (.int (nI i)), none] [.int (nI z), .int (nI to), .int (nI r), .ref (q + 3)] (zWd I (va_up A (q + 4) D) t) (fun v w1 => v = none ∧ ∃ D, w1 = zWd I (va_up A (q + 4) D) t ∧ ∀ r i, r < R → i < n - 1 → D (8 * r + i) = nI (zwr n (h r) a i)) := fun z hz => by
              refine bX8_leaveOut_56 _ _ _ _ _ _ _ _ _ _ (zvV hq.rob (v_rput hq (by omega) (by omega) _) (by decide) ?_)
              rintro w1 rfl
              refine bX8_leaveOut_62 _ _ _ _ _ _ ?_
              rw [zup_eq, bx_uu, nI_1, nI_1, hto1]
              rw [← hto1]
              have := ihi (upd D (8 * r + to) (nI z)) (fun r' i' hr' hi' => by
                rw [upd_ne _ _ (by omega)]
                exact e1 r' i' hr' hi') (fun m hm => by
                rw [upd_ne _ _ (by omega)]
                exact e2 m hm) (fun j hj => by
                rw [← hto1] at hj
                by_cases e : j = to
                · rw [e, upd_eq, hz]
                · rw [upd_ne _ _ (by omega)]
                  exact e3 j (by omega)) (fun j hj hjn => by
                have : to ≤ i := by
                  rw [← hto]
                  split <;> omega
                rw [upd_ne _ _ (by omega)]
                exact e4 j (by omega) hjn)
              rw [← hto1] at this
              exact this
            by_cases c2 : h r i ≤ a
            · rw [if_pos c2]
              refine go _ ?_
              rw [hnew]
              unfold zdn
              rw [if_pos (by omega)]
            · rw [if_neg c2, nI_p (by omega)]
              refine go _ ?_
              rw [hnew]
              unfold zdn
              rw [if_neg (by omega)]
      have i0 := inner 0 (Nat.zero_le _) D d1 (fun m hm => d2 m (by omega)) (fun j hj => by rw [if_pos (Nat.zero_le _)] at hj; exact absurd hj (Nat.not_lt_zero _)) (fun j _ hj => by rw [d2 _ (by omega)]; exact hA r j hr hj)
      rw [if_pos (Nat.zero_le _)] at i0
      exact i0
  have k0 := key 0 (Nat.zero_le _) (A (q + 4)) (fun r' i hr' => absurd hr' (Nat.not_lt_zero _)) (fun _ _ => rfl)
  rw [zup_self] at k0
  exact k0
theorem v_leaveOut (H : zCS I A q x) (hv : zVl x) {a : Nat} (ha : a < x.1) (hx1 : x.1 ≠ 1) : zEv X 3 0 0 MX5_leaveOut [.ref q, .int (nI a)] (zWd I A t) (fun v w1 => v = none ∧ ∃ I' A', w1 = zWd I' A' t ∧ zCS I' A' q (zWo x a) ∧ zOn q I A I' A') := by
  have H1 := H.1
  have hq := H1.1
  have hp := H1.2.1
  have h8 := hp.1
  have h28 := z28 h8
  have h6 := H.2.1.1
  refine eX5_leaveOut _ _ (bX5_leaveOut_0 _ _ (zvRd hq.ob (v_hasN H1 (by omega)) (by decide) ?_))
  rw [zB_ifP, if_pos ha]
  refine ⟨_, hq.rw.rd, _, H1.sz, zvV hq.rob (v_rleave hq H.2.1 H.2.2.1 H.2.2.2 h8 ha) (by decide) ?_⟩
  rintro w1 ⟨D, rfl, hD⟩
  have key : ∀ k, k ≤ x.1 → ∀ B C : Nat → Int32, (∀ j, j < (if k ≤ a then k else k - 1) → B j = nI (zwu x.1 x.2.1 a j) ∧ C j = nI (zov (x.1 - 1) (zwu x.1 x.2.1 a) j)) → (∀ j, k ≤ j → j < x.1 → B j = nI (x.2.1 j) ∧ C j = nI (zov x.1 x.2.1 j)) → zRn X 3 0 0 MX5_leaveOut 23 [some (.ref q), some (.int (nI a)), some (.int (nI k)), none] [] (zWd I (va_up (va_up (va_up A (q + 4) D) (q + 1) B) (q + 2) C) t) (fun v w1 => v = none ∧ ∃ I' A', w1 = zWd I' A' t ∧ zCS I' A' q (zWo x a) ∧ zOn q I A I' A') := by
    have hz : ∀ B C, zfI (zWd I (va_up (va_up (va_up A (q + 4) D) (q + 1) B) (q + 2) C) t) q 5 3 = some (nI x.1) := fun B C => by rw [hq.sz.rd, H1.2.2.1]
    refine zdown ?_ ?_
    · intro B C h1 _
      rw [if_neg (by omega)] at h1
      refine bX5_leaveOut_23 _ _ _ ⟨_, hz B C, ?_⟩
      rw [if_pos (Int32.le_refl _)]
      refine ⟨_, hz B C, _, hq.sz.wr, rfl, _, _, rfl, ⟨⟨hq, zwu_po hp ha, ?_, fun j hj => ?_, fun j hj => ?_⟩, (zVl_Wo hv ha hx1).2.1, ?_, fun r i hr hi => ?_⟩, ((((zOn.refl q I A).a (p := q + 4) (by omega)).a (p := q + 1) (by omega)).a (p := q + 2) (by omega)).f (p := q) (by omega)⟩
      · rw [zup_eq, upd_eq, nI_p (by omega)]
        rfl
      · rw [zup_ne (by omega), zup_eq]
        exact (h1 j hj).1
      · rw [zup_eq]
        exact (h1 j hj).2
      · rw [zup_ne (by omega)]
        exact H.2.2.1
      · have hr : r < x.2.2.1 := hr
        have hi : i < x.1 - 1 := hi
        rw [zup_ne (by omega), zup_ne (by omega), zup_eq]
        show _ = nI (if r < x.2.2.1 ∧ i < x.1 - 1 then zwr x.1 (x.2.2.2 r) a i else 0)
        rw [if_pos ⟨hr, hi⟩]
        exact hD r i hr hi
    · intro k hk ih B C h1 h2
      obtain ⟨k1, k2⟩ := h2 k (Nat.le_refl _) hk
      have gB : zaI (zWd I (va_up (va_up (va_up A (q + 4) D) (q + 1) B) (q + 2) C) t) (q + 1) (nI k) = some (nI (x.2.1 k)) := by rw [hq.bA.rd (by omega), zup_ne (by omega), zup_eq, k1]
      have gC : ∀ B, zaI (zWd I (va_up (va_up (va_up A (q + 4) D) (q + 1) B) (q + 2) C) t) (q + 2) (nI k) = some (nI (zov x.1 x.2.1 k)) := fun B => by rw [hq.aA.rd (by omega), zup_eq, k2]
      have lz := zov_lt x.1 x.2.1 k
      have mid : zRn X 3 0 0 MX5_leaveOut 43 [some (.ref q), some (.int (nI a)), some (.int (nI k)), none] [.int (nI (if k ≤ a then k else k - 1))] (zWd I (va_up (va_up (va_up A (q + 4) D) (q + 1) B) (q + 2) C) t) (fun v w1 => v = none ∧ ∃ I' A', w1 = zWd I' A' t ∧ zCS I' A' q (zWo x a) ∧ zOn q I A I' A') := by
        refine bX5_leaveOut_43 _ _ _ _ ?_
        rw [zi_eq (by omega) (by omega)]
        by_cases c : k = a
        · rw [if_pos c]
          refine bX5_leaveOut_81 _ _ _ ?_
          rw [nI_1]
          refine ih B C (fun j hj => h1 j ?_) (fun j hj hjn => h2 j (by omega) hjn)
          rw [if_pos (by omega)]
          rw [if_neg (by omega)] at hj
          omega
        · rw [if_neg c]
          generalize hto : (if k ≤ a then k else k - 1) = to at *
          have hton : to < x.1 - 1 := by
            rw [← hto]
            split <;> omega
          have hsk : zsk a to = k := by
            rw [← hto]
            unfold zsk
            by_cases z : k ≤ a
            · rw [if_pos z, if_pos (by omega)]
            · rw [if_neg z, if_neg (by omega)]
              omega
          have htok : to ≤ k := by
            rw [← hto]
            split <;> omega
          have hto1 : (if k + 1 ≤ a then k + 1 else k + 1 - 1) = to + 1 := by
            rw [← hto]
            by_cases z : k ≤ a
            · rw [if_pos z, if_pos (by omega)]
            · rw [if_neg z, if_neg (by omega)]
              omega
          have ew : zw1 (x.2.1 k) a = zwu x.1 x.2.1 a to := by
            unfold zwu
            rw [if_pos hton, hsk]
          have eo : zw1 (zov x.1 x.2.1 k) a = zov (x.1 - 1) (zwu x.1 x.2.1 a) to := by
            rw [zov_wu hp ha, hsk]
          refine ⟨_, hq.bl.rd, _, hq.bl.rd, _, gB, zcRd (v_closeGap (hp.u31 k) (by omega)) (by decide) ?_⟩
          rw [ew]
          refine ⟨zWd I (va_up (va_up (va_up A (q + 4) D) (q + 1) (upd B to (nI (zwu x.1 x.2.1 a to)))) (q + 2) C) t, ?_, _, hq.ab.rd, _, hq.ab.rd, _, gC _, zcRd (v_closeGap (by omega) (by omega)) (by decide) ?_⟩
          · rw [hq.bA.wr (by omega), zup_ne (show q + 1 ≠ q + 2 by omega), zup_eq, zup_comm _ (show q + 2 ≠ q + 1 by omega), bx_uu]
          · rw [eo]
            refine ⟨zWd I (va_up (va_up (va_up A (q + 4) D) (q + 1) (upd B to (nI (zwu x.1 x.2.1 a to)))) (q + 2) (upd C to (nI (zov (x.1 - 1) (zwu x.1 x.2.1 a) to)))) t, ?_, ?_⟩
            · rw [hq.aA.wr (by omega), zup_eq, bx_uu]
            · refine bX5_leaveOut_81 _ _ _ ?_
              rw [nI_1]
              refine ih _ _ (fun j hj => ?_) (fun j hj hjn => ?_)
              · rw [hto1] at hj
                by_cases e : j = to
                · rw [e, upd_eq, upd_eq]
                  exact ⟨rfl, rfl⟩
                · rw [upd_ne _ _ e, upd_ne _ _ e]
                  exact h1 j (by omega)
              · rw [upd_ne _ _ (by omega), upd_ne _ _ (by omega)]
                exact h2 j (by omega) hjn
      refine bX5_leaveOut_23 _ _ _ ⟨_, hz B C, ?_⟩
      rw [zi_le (by omega) (by omega), if_neg (by omega), zi_le (by omega) (by omega)]
      by_cases c : k ≤ a
      · rw [if_pos c]
        rw [if_pos c] at mid
        exact mid
      · rw [if_neg c, nI_p (by omega)]
        rw [if_neg c] at mid
        exact mid
  have k0 := key 0 (Nat.zero_le _) (A (q + 1)) (A (q + 2)) (fun j hj => by rw [if_pos (Nat.zero_le _)] at hj; exact absurd hj (Nat.not_lt_zero _)) (fun j _ hj => ⟨H1.2.2.2.1 j hj, H1.2.2.2.2 j hj⟩)
  have e1 : A (q + 1) = va_up A (q + 4) D (q + 1) := by rw [zup_ne (by omega)]
  have e2 : A (q + 2) = va_up A (q + 4) D (q + 2) := by rw [zup_ne (by omega)]
  rw [e1, zup_self, e2, zup_self] at k0
  exact k0
end ZW1
section ZW2
variable {X : zX} {st : zSt} {x y : Int32}
set_option maxHeartbeats 2000000 in
theorem a_without : zAc X MX11_without MX12_without [.int x, .int y] st := by
  rcases zslot st.1 x with ⟨s, hs⟩ | hn
  · by_cases hy : zin (st.1 s).1 y = true
    · obtain ⟨a, ha, rfl⟩ := zin_e.mp hy
      by_cases h1n : (st.1 s).1 = 1
      · refine zAc.mk (-6) st 6 6 (by decide) (by decide) (fun I A t hC => ?_) (fun I A t hM => ?_)
        · have h0 := hC.ns hs.1
          refine eX11_without _ _ _ (bX11_without_0 _ _ _ (zvO1 ob_0 (v_orderWith2 hC.1 hs ha) (by decide) (zvRd h0.1.1.ob (v_size h0.1) (by decide) ?_)))
          rw [h1n, if_pos (show nI 1 = 1 from rfl)]
          exact zQa.id hC
        · have h1 := m_thing1 (X := X) (I := I) (t := t) (y := nI a) hM.m3 hs
          obtain ⟨s3, rfl, s0⟩ := hs
          have H : zMR A s (st.1 s).1 (st.1 s).2.1 (st.1 s).2.2.1 (st.1 s).2.2.2 := hM.m3 s s3
          refine eX12_without _ _ _ (bX12_without_0 _ _ _ (zvRd ob_98 h1 (by decide) ?_))
          rw [zB_t hy]
          refine zvRd ob_98 (m_many H) (by decide) ?_
          rw [h1n, if_pos (show nI 1 = 1 from rfl)]
          exact zQb_.id hM
      · have hne : st.1 s ≠ zWo (st.1 s) a := fun e => by
          have e2 : (st.1 s).1 = (st.1 s).1 - 1 := congrArg (fun z : zSl => z.1) e
          omega
        refine zAc.mk (nI ((st.1 s).1 - 1)) (zPu st s (zWo (st.1 s) a)) 6 6 (by decide) (by decide) (fun I A t hC => ?_) (fun I A t hM => ?_)
        · have h0 := hC.ns hs.1
          have hv := hC.2.1 s hs.1
          have h8 := h0.1.n8
          refine eX11_without _ _ _ (bX11_without_0 _ _ _ (zvO1 ob_0 (v_orderWith2 hC.1 hs ha) (by decide) (zvRd h0.1.1.ob (v_size h0.1) (by decide) ?_)))
          show if nI _ = nI 1 then _ else _
          rw [zi_eq (by omega) (by decide), if_neg h1n]
          refine ⟨_, fr_0_1.rd, zvV q17.ob (v_copyFrom q17 (by have := hs.1; omega) h0) (by decide) ?_⟩
          rintro w1 ⟨I1, A1, rfl, g1, g2⟩
          refine ⟨_, fr_0_1.rd, zvV q17.ob (v_leaveOut g1 hv ha h1n) (by decide) ?_⟩
          rintro w2 ⟨I2, A2, rfl, g3, g4⟩
          have g5 := g2.trans g4
          have hx := hs.2.1
          rw [hx]
          refine zvB (M := MX11_without) hC (g5.hi q17) (g5.kp.ci hC) g3 (zVl_Wo hv ha h1n) hs.1 (by decide) (fun I3 A3 k1 k2 k3 => ?_)
          rw [zPd_n hne] at k2
          exact ⟨_, fr_0_1.rd, zvRd q17.ob (v_size k1.1) (by decide) ⟨rfl, I3, A3, rfl, k2, k3⟩⟩
        · have h1 := m_thing1 (X := X) (I := I) (t := t) (y := nI a) hM.m3 hs
          obtain ⟨s3, rfl, s0⟩ := hs
          have H : zMR A s (st.1 s).1 (st.1 s).2.1 (st.1 s).2.2.1 (st.1 s).2.2.2 := hM.m3 s s3
          have hv := hM.2.1 s s3
          have hvy := zVl_Wo hv ha h1n
          have h8 := hv.1.1
          have h6 := hv.2.1.1
          generalize hn : (st.1 s).1 = n at *
          generalize hu : (st.1 s).2.1 = u at *
          generalize hRr : (st.1 s).2.2.1 = R at *
          generalize hhh : (st.1 s).2.2.2 = h at *
          have hWo : zWo (st.1 s) a = (n - 1, zwu n u a, R, fun r i => if r < R ∧ i < n - 1 then zwr n (h r) a i else 0) := by
            unfold zWo
            rw [hn, hu, hRr, hhh]
          refine eX12_without _ _ _ (bX12_without_0 _ _ _ (zvRd ob_98 h1 (by decide) ?_))
          rw [zB_t hy]
          refine zvRd ob_98 (m_many H) (by decide) ?_
          show if nI _ = nI 1 then _ else _
          rw [zi_eq (by omega) (by decide), if_neg h1n]
          refine zvV ob_98 m_remembers (by decide) ?_
          rintro w1 ⟨W, rfl, hW⟩
          -- rows
          have rowsL : ∀ r, r ≤ R → ∀ D T : Nat → Int32, (D (58 * s) = nI n) → (∀ b, b < 8 → D (58 * s + 1 + b) = nI (zwu n u a b)) → (D (58 * s + 9) = nI R) → (∀ r' i, r' < r → i < 8 → D (58 * s + 10 + 8 * r' + i) = nI (if i < n - 1 then zwr n (h r') a i else 0)) → (∀ r' i, r ≤ r' → r' < 6 → i < 8 → D (58 * s + 10 + 8 * r' + i) = nI (h r' i)) → (∀ j, (j < 58 * s ∨ 58 * s + 58 ≤ j) → D j = A 99 j) → zRn X 6 0 0 MX12_without 122 [some (.ref 98), some (.int (nI s)), some (.int (nI a)), some (.int (nI n)), some (.int (nI r)), none, none, none] [] (zWd I (zMW A W D T) t) (zQb_ (zPu st s (zWo (st.1 s) a)) I A t (nI (n - 1))) := by
            refine zdown ?_ ?_
            · intro D T d0 d1 d9 d2 d3 d4
              have r9 : zMW A W D T 99 (58 * s + 9) = nI R := by rw [zMW_99, d9]
              refine bX12_without_122 _ _ _ _ _ (zvRd ob_98 (r_rows s3 r9) (by decide) ?_)
              rw [if_pos (Int32.le_refl _), nI_p (by omega)]
              refine zvV ob_98 (m_lays s3 (k := 0) (by decide) _) (by decide) ?_
              rintro w2 rfl
              rw [zMW_99, zMW_s99, Nat.add_zero]
              refine zvK hM.2.1 hvy (zMW_X hM W _ T) (zMW_W hM hW _ T) (zSg_put (A := A) hM.1 (fun k hk => ?_) (fun j hj => ?_)) (zMW_L I A W _ T) _ (by decide)
              · rw [zMW_99, hWo]
                refine zcell hk (P := fun k => upd D (58 * s) (nI (n - 1)) (58 * s + k) = nI (zEn (n - 1, zwu n u a, R, fun r i => if r < R ∧ i < n - 1 then zwr n (h r) a i else 0) k)) ?_ (fun b hb => ?_) ?_ (fun r i hr hi => ?_)
                · rw [Nat.add_zero, upd_eq]
                  rfl
                · rw [upd_ne _ _ (by omega), zEn_u hb, show 58 * s + (1 + b) = 58 * s + 1 + b by omega]
                  exact d1 b hb
                · rw [upd_ne _ _ (by omega)]
                  exact d9
                · rw [upd_ne _ _ (by omega), zEn_h hi, show 58 * s + (10 + 8 * r + i) = 58 * s + 10 + 8 * r + i by omega]
                  show _ = nI (if r < R ∧ i < n - 1 then zwr n (h r) a i else 0)
                  rcases Nat.lt_or_ge r R with z | z
                  · rw [d2 r i z hi]
                    by_cases c : i < n - 1
                    · rw [if_pos c, if_pos ⟨z, c⟩]
                    · rw [if_neg c, if_neg (by omega)]
                  · rw [d3 r i z hr hi, if_neg (by omega), H.2.2.1.2.2.2 r i (Or.inl z)]
              · rw [zMW_99, upd_ne _ _ (by omega), d4 j hj]
            · intro r hr ih D T d0 d1 d9 d2 d3 d4
              obtain ⟨f1, f2⟩ := H.2.2.1.f hr
              obtain ⟨p1, p2, -⟩ := zpl_ok h8 f1 f2 ha
              have r9 : zMW A W D T 99 (58 * s + 9) = nI R := by rw [zMW_99, d9]
              refine bX12_without_122 _ _ _ _ _ (zvRd ob_98 (r_rows s3 r9) (by decide) ?_)
              rw [zi_le (by omega) (by omega), if_neg (by omega)]
              have lay : ∀ i, i ≤ n → ∀ D T : Nat → Int32, (∀ j, j < n - 1 → T j = nI (zwr n (h r) a j)) → (D (58 * s) = nI n) → (∀ b, b < 8 → D (58 * s + 1 + b) = nI (zwu n u a b)) → (D (58 * s + 9) = nI R) → (∀ r' i, r' < r → i < 8 → D (58 * s + 10 + 8 * r' + i) = nI (if i < n - 1 then zwr n (h r') a i else 0)) → (∀ j, j < i → D (58 * s + 10 + 8 * r + j) = nI (if j < n - 1 then zwr n (h r) a j else 0)) → (∀ j, n ≤ j → j < 8 → D (58 * s + 10 + 8 * r + j) = nI (h r j)) → (∀ r' i, r + 1 ≤ r' → r' < 6 → i < 8 → D (58 * s + 10 + 8 * r' + i) = nI (h r' i)) → (∀ j, (j < 58 * s ∨ 58 * s + 58 ≤ j) → D j = A 99 j) → zRn X 6 0 0 MX12_without 195 [some (.ref 98), some (.int (nI s)), some (.int (nI a)), some (.int (nI n)), some (.int (nI r)), none, some (.int (nI i)), none] [] (zWd I (zMW A W D T) t) (zQb_ (zPu st s (zWo (st.1 s) a)) I A t (nI (n - 1))) := by
                refine zdown ?_ ?_
                · intro D T hT e0 e1 e9 e2 e3 e3b e4 e5
                  refine bX12_without_195 _ _ _ _ _ _ ?_
                  rw [if_pos (Int32.le_refl _), nI_1]
                  refine ih D T e0 e1 e9 (fun r' i' hr' hi' => ?_) e4 e5
                  rcases Nat.lt_or_ge r' r with z | z
                  · exact e2 r' i' z hi'
                  · have : r' = r := by omega
                    subst this
                    rcases Nat.lt_or_ge i' n with z2 | z2
                    · exact e3 i' z2
                    · rw [e3b i' z2 hi', if_neg (by omega), H.2.2.1.2.2.2 r' i' (Or.inr z2)]
                · intro i hi ihi D T hT e0 e1 e9 e2 e3 e3b e4 e5
                  have ea : (10 : Int32) + (8 : Int32) * nI r + nI i = nI (10 + 8 * r + i) := by
                    show nI 10 + nI 8 * nI _ + nI i = _
                    rw [pk_mul, nI_add, nI_add]
                  have go : ∀ z : Nat, z = (if i < n - 1 then zwr n (h r) a i else 0) → zRn X 6 0 0 MX12_without 233 [some (.ref 98), some (.int (nI s)), some (.int (nI a)), some (.int (nI n)), some (.int (nI r)), none, some (.int (nI i)), none] [.int (nI z), .int (nI (10 + 8 * r + i)), .int (nI s), .ref 98] (zWd I (zMW A W D T) t) (zQb_ (zPu st s (zWo (st.1 s) a)) I A t (nI (n - 1))) := fun z hz => by
                    refine bX12_without_233 _ _ _ _ _ _ _ _ _ _ (zvV ob_98 (m_lays s3 (k := 10 + 8 * r + i) (by omega) _) (by decide) ?_)
                    rintro w2 rfl
                    rw [zMW_99, zMW_s99, nI_1]
                    refine ihi _ T hT ?_ (fun b hb => ?_) ?_ (fun r' i' hr' hi' => ?_) (fun j hj => ?_) (fun j hj hj8 => ?_) (fun r' i' hr' h6' hi' => ?_) (fun j hj => ?_)
                    · rw [upd_ne _ _ (by omega)]
                      exact e0
                    · rw [upd_ne _ _ (by omega)]
                      exact e1 b hb
                    · rw [upd_ne _ _ (by omega)]
                      exact e9
                    · rw [upd_ne _ _ (by omega)]
                      exact e2 r' i' hr' hi'
                    · by_cases e : j = i
                      · rw [e, show 58 * s + 10 + 8 * r + i = 58 * s + (10 + 8 * r + i) by omega, upd_eq, hz]
                      · rw [upd_ne _ _ (by omega)]
                        exact e3 j (by omega)
                    · rw [upd_ne _ _ (by omega)]
                      exact e3b j hj hj8
                    · rw [upd_ne _ _ (by omega)]
                      exact e4 r' i' hr' h6' hi'
                    · rw [upd_ne _ _ (by omega)]
                      exact e5 j hj
                  refine bX12_without_195 _ _ _ _ _ _ ?_
                  rw [zi_le (by omega) (by omega), if_neg (by omega), nI_p (by omega), zi_le (by omega) (by omega), ea]
                  by_cases c : n - 1 ≤ i
                  · rw [if_pos c]
                    exact go 0 (by rw [if_neg (by omega)])
                  · rw [if_neg c]
                    refine ⟨_, fr_98_25.rd, nI (zwr n (h r) a i), ?_, go _ (by rw [if_pos (by omega)])⟩
                    rw [ar_112.rd (by omega), zMW_112, hT i (by omega)]
              have turn : ∀ i, i ≤ n → ∀ T : Nat → Int32, (∀ j, j < (if i ≤ zpl n (h r) a then i else i - 1) → T j = nI (zwr n (h r) a j)) → zRn X 6 0 0 MX12_without 138 [some (.ref 98), some (.int (nI s)), some (.int (nI a)), some (.int (nI n)), some (.int (nI r)), some (.int (nI (if i ≤ zpl n (h r) a then i else i - 1))), some (.int (nI i)), none] [] (zWd I (zMW A W D T) t) (zQb_ (zPu st s (zWo (st.1 s) a)) I A t (nI (n - 1))) := by
                refine zdown ?_ ?_
                · intro T hT
                  rw [if_neg (by omega)] at hT
                  refine bX12_without_138 _ _ _ _ _ _ _ ?_
                  rw [if_pos (Int32.le_refl _)]
                  exact lay 0 (Nat.zero_le _) D T hT d0 d1 d9 d2 (fun j hj => absurd hj (Nat.not_lt_zero _)) (fun j _ hj8 => d3 r j (Nat.le_refl _) (by omega) hj8) (fun r' i' h1 h2 h3 => d3 r' i' (by omega) h2 h3) d4
                · intro i hi ihi T hT
                  have hfi := f1 i hi
                  have rr : zMW A W D T 99 (58 * s + 10 + 8 * r + i) = nI (h r i) := by rw [zMW_99, d3 r i (Nat.le_refl _) (by omega) (by omega)]
                  refine bX12_without_138 _ _ _ _ _ _ _ ?_
                  rw [zi_le (by omega) (by omega), if_neg (by omega)]
                  refine zvRd ob_98 (r_rowAt s3 (by omega) (by omega) rr) (by decide) ?_
                  rw [zi_eq (by omega) (by omega)]
                  by_cases c : h r i = a
                  · have ep : i = zpl n (h r) a := f2 _ _ hi p1 (c.trans p2.symm)
                    rw [if_pos c]
                    refine bX12_without_186 _ _ _ _ _ _ _ ?_
                    have et : (if i ≤ zpl n (h r) a then i else i - 1) = (if i + 1 ≤ zpl n (h r) a then i + 1 else i + 1 - 1) := by
                      rw [if_pos (by omega), if_neg (by omega)]
                      omega
                    rw [nI_1]
                    rw [et] at hT ⊢
                    exact ihi T hT
                  · have ep : i ≠ zpl n (h r) a := fun z => c (by rw [z]; exact p2)
                    rw [if_neg c]
                    refine ⟨_, fr_98_25.rd, ?_⟩
                    rw [zi_le (by omega) (by omega)]
                    generalize hto : (if i ≤ zpl n (h r) a then i else i - 1) = to at *
                    have hton : to < n - 1 := by
                      rw [← hto]
                      split <;> omega
                    have hsk : zsk (zpl n (h r) a) to = i := by
                      rw [← hto]
                      unfold zsk
                      by_cases z : i ≤ zpl n (h r) a
                      · rw [if_pos z, if_pos (by omega)]
                      · rw [if_neg z, if_neg (by omega)]
                        omega
                    have hnew : zwr n (h r) a to = zdn a (h r i) := by
                      unfold zwr
                      rw [hsk]
                    have hto1 : to + 1 = (if i + 1 ≤ zpl n (h r) a then i + 1 else i + 1 - 1) := by
                      rw [← hto]
                      by_cases z : i ≤ zpl n (h r) a
                      · rw [if_pos z, if_pos (by omega)]
                      · rw [if_neg z, if_neg (by omega)]
                        omega
                    have go : ∀ z : Nat, z = zwr n (h r) a to → zRn X 6 0 0 MX12_without 182 [some (.ref 98), some (.int (nI s)), some (.int (nI a)), some (.int (nI n)), some (.int (nI r)), some (.int (nI to)), some (.int (nI i)), none] [.int (nI z), .int (nI to), .ref 112] (zWd I (zMW A W D T) t) (zQb_ (zPu st s (zWo (st.1 s) a)) I A t (nI (n - 1))) := fun z hz => by
                      refine bX12_without_182 _ _ _ _ _ _ _ _ _ _ ⟨_, ar_112.wr (by omega), ?_⟩
                      refine bX12_without_186 _ _ _ _ _ _ _ ?_
                      rw [zMW_112, zMW_s112, nI_1, nI_1]
                      have := ihi (upd T to (nI z)) (fun j hj => by
                        rw [← hto1] at hj
                        by_cases e : j = to
                        · rw [e, upd_eq, hz]
                        · rw [upd_ne _ _ e]
                          exact hT j (by omega))
                      rw [← hto1] at this
                      exact this
                    by_cases c2 : a ≤ h r i
                    · rw [if_pos c2, nI_p (by omega)]
                      refine go _ ?_
                      rw [hnew]
                      unfold zdn
                      rw [if_neg (by omega)]
                    · rw [if_neg c2]
                      refine go _ ?_
                      rw [hnew]
                      unfold zdn
                      rw [if_pos (by omega)]
              have t0 := turn 0 (Nat.zero_le _) T (fun j hj => by rw [if_pos (Nat.zero_le _)] at hj; exact absurd hj (Nat.not_lt_zero _))
              rw [if_pos (Nat.zero_le _)] at t0
              exact t0
          -- who is below whom
          have layU : ∀ k, k ≤ n → ∀ D T : Nat → Int32, (∀ b, b < n → T b = nI (zw1 (u b) a)) → (∀ b, b < k → D (58 * s + 1 + b) = nI (zwu n u a b)) → (∀ j, (j < 58 * s + 1 ∨ 58 * s + 1 + k ≤ j) → D j = A 99 j) → zRn X 6 0 0 MX12_without 66 [some (.ref 98), some (.int (nI s)), some (.int (nI a)), some (.int (nI n)), some (.int (nI k)), none, none, none] [] (zWd I (zMW A W D T) t) (zQb_ (zPu st s (zWo (st.1 s) a)) I A t (nI (n - 1))) := by
            refine zdown ?_ ?_
            · intro D T hT d1 d2
              refine bX12_without_66 _ _ _ _ _ ?_
              rw [if_pos (Int32.le_refl _)]
              refine rowsL 0 (Nat.zero_le _) D T ?_ (fun b hb => ?_) ?_ (fun r' i hr' => absurd hr' (Nat.not_lt_zero _)) (fun r' i _ h6' hi => ?_) (fun j hj => d2 j (by omega))
              · rw [d2 _ (by omega), H.2.2.2.1]
              · rcases Nat.lt_or_ge b n with z | z
                · exact d1 b z
                · rw [d2 _ (by omega), H.2.2.2.2.1 b hb, H.2.1.2.2.1 b z]
                  unfold zwu
                  rw [if_neg (by omega)]
              · rw [d2 _ (by omega), H.2.2.2.2.2.1]
              · rw [d2 _ (by omega), H.2.2.2.2.2.2 r' i h6' hi]
            · intro k hk ih D T hT d1 d2
              have e1 : (1 : Int32) + nI k = nI (1 + k) := by
                show nI 1 + nI k = _
                rw [nI_add]
              have go : ∀ z : Nat, z = zwu n u a k → zRn X 6 0 0 MX12_without 110 [some (.ref 98), some (.int (nI s)), some (.int (nI a)), some (.int (nI n)), some (.int (nI k)), none, none, none] [.int (nI z), .int (nI (1 + k)), .int (nI s), .ref 98] (zWd I (zMW A W D T) t) (zQb_ (zPu st s (zWo (st.1 s) a)) I A t (nI (n - 1))) := fun z hz => by
                refine bX12_without_110 _ _ _ _ _ _ _ _ _ (zvV ob_98 (m_lays s3 (k := 1 + k) (by omega) _) (by decide) ?_)
                rintro w2 rfl
                rw [zMW_99, zMW_s99, nI_1]
                refine ih _ T hT (fun b hb => ?_) (fun j hj => ?_)
                · by_cases e : b = k
                  · rw [e, show 58 * s + 1 + k = 58 * s + (1 + k) by omega, upd_eq, hz]
                  · rw [upd_ne _ _ (by omega)]
                    exact d1 b (by omega)
                · rw [upd_ne _ _ (by omega)]
                  exact d2 j (by omega)
              refine bX12_without_66 _ _ _ _ _ ?_
              rw [zi_le (by omega) (by omega), if_neg (by omega), nI_p (by omega), zi_eq (by omega) (by omega), e1]
              by_cases c : k = n - 1
              · rw [if_pos c]
                refine go 0 ?_
                unfold zwu
                rw [if_neg (by omega)]
              · rw [if_neg c]
                refine ⟨_, fr_98_25.rd, ?_⟩
                rw [zi_le (by omega) (by omega)]
                have go2 : ∀ b, b < n → zsk a k = b → zRn X 6 0 0 MX12_without 109 [some (.ref 98), some (.int (nI s)), some (.int (nI a)), some (.int (nI n)), some (.int (nI k)), none, none, none] [.int (nI b), .ref 112, .int (nI (1 + k)), .int (nI s), .ref 98] (zWd I (zMW A W D T) t) (zQb_ (zPu st s (zWo (st.1 s) a)) I A t (nI (n - 1))) := fun b hb hsk => by
                  refine bX12_without_109 _ _ _ _ _ _ _ _ _ _ ⟨nI (zw1 (u b) a), ?_, go _ ?_⟩
                  · rw [ar_112.rd (by omega), zMW_112, hT b hb]
                  · unfold zwu
                    rw [if_pos (by omega), hsk]
                by_cases c2 : a ≤ k
                · rw [if_pos c2, nI_1]
                  exact go2 (k + 1) (by omega) (by unfold zsk; rw [if_neg (by omega)])
                · rw [if_neg c2]
                  exact go2 k (by omega) (by unfold zsk; rw [if_pos (by omega)])
          have turnU : ∀ k, k ≤ n → ∀ T : Nat → Int32, (∀ b, b < k → T b = nI (zw1 (u b) a)) → zRn X 6 0 0 MX12_without 33 [some (.ref 98), some (.int (nI s)), some (.int (nI a)), some (.int (nI n)), some (.int (nI k)), none, none, none] [] (zWd I (zMW A W (A 99) T) t) (zQb_ (zPu st s (zWo (st.1 s) a)) I A t (nI (n - 1))) := by
            have e1 : va_up (va_up A 100 W) 99 (A 99) = va_up A 100 W := by
              have : A 99 = va_up A 100 W 99 := by rw [zup_ne (by decide)]
              rw [this, zup_self]
            have HT : ∀ T, zMR (zMW A W (A 99) T) s n u R h := fun T => by
              unfold zMW
              rw [e1]
              exact (H.up (p := 100) (by decide)).up (p := 112) (by decide)
            refine zdown ?_ ?_
            · intro T hT
              refine bX12_without_33 _ _ _ _ _ ?_
              rw [if_pos (Int32.le_refl _)]
              exact layU 0 (Nat.zero_le _) (A 99) T hT (fun b hb => absurd hb (Nat.not_lt_zero _)) (fun _ _ => rfl)
            · intro k hk ih T hT
              refine bX12_without_33 _ _ _ _ _ ?_
              rw [zi_le (by omega) (by omega), if_neg (by omega)]
              refine ⟨_, fr_98_25.rd, zvRd ob_98 (m_under (HT T) (by omega)) (by decide) (zcRd (m_without1 (H.2.1.u31 k) (by omega)) (by decide) ⟨_, ar_112.wr (by omega), ?_⟩)⟩
              rw [zMW_112, zMW_s112, nI_1]
              refine ih _ (fun b hb => ?_)
              by_cases e : b = k
              · rw [e, upd_eq]
              · rw [upd_ne _ _ e]
                exact hT b (by omega)
          have k0 := turnU 0 (Nat.zero_le _) (A 112) (fun b hb => absurd hb (Nat.not_lt_zero _))
          rw [zMW_id] at k0
          exact k0
    · rw [Bool.not_eq_true] at hy
      refine zAc.mk (-2) st 6 6 (by decide) (by decide) (fun I A t hC => ?_) (fun I A t hM => ?_)
      · exact eX11_without _ _ _ (bX11_without_0 _ _ _ (zvO0 ob_0 (v_orderWith1 hC.1 hs hy) (by decide) (zQa.id hC)))
      · refine eX12_without _ _ _ (bX12_without_0 _ _ _ (zvRd ob_98 (m_thing1 hM.m3 hs) (by decide) ?_))
        rw [zB_f hy]
        exact zQb_.id hM
  · refine zAc.mk (-2) st 6 6 (by decide) (by decide) (fun I A t hC => ?_) (fun I A t hM => ?_)
    · exact eX11_without _ _ _ (bX11_without_0 _ _ _ (zvO0 ob_0 (v_orderWith0 hC.1 hn) (by decide) (zQa.id hC)))
    · refine eX12_without _ _ _ (bX12_without_0 _ _ _ (zvRd ob_98 (m_thing0 hM.m3 hn) (by decide) ?_))
      rw [if_pos rfl]
      exact zQb_.id hM
end ZW2
