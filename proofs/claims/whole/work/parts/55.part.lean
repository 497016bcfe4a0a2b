/-! ===== part: both searches ===== -/
abbrev zDV (A : zF2) (B C : Nat → Int32) : zF2 := va_up (va_up A 82 B) 83 C
theorem zDV_82 (A : zF2) (B C : Nat → Int32) : zDV A B C 82 = B := by unfold zDV; rw [zup_ne (by decide), zup_eq]
theorem zDV_83 (A : zF2) (B C : Nat → Int32) : zDV A B C 83 = C := zup_eq
theorem zup_comm {α : Type} (f : Nat → α) {p q : Nat} (h : p ≠ q) (v w : α) : va_up (va_up f p v) q w = va_up (va_up f q w) p v := by
  funext j
  unfold va_up
  by_cases h1 : j = q
  · subst h1
    rw [if_pos rfl, if_neg (fun e => h e.symm), if_pos rfl]
  · rw [if_neg h1, if_neg h1]
theorem zDV_s82 (A : zF2) (B C B' : Nat → Int32) : va_up (zDV A B C) 82 B' = zDV A B' C := by unfold zDV; rw [zup_comm _ (by decide), bx_uu]
theorem zDV_s83 (A : zF2) (B C C' : Nat → Int32) : va_up (zDV A B C) 83 C' = zDV A B C' := by unfold zDV; rw [bx_uu]
theorem zDV_or {I A : zF2} {q n : Nat} {u : Nat → Nat} (h : zOR I A q n u) (B C : Nat → Int32) : zOR I (zDV A B C) q n u := (h.up (p := 82) (by decide)).up (p := 83) (by decide)
theorem zDV_id (A : zF2) : zDV A (A 82) (A 83) = A := by
  funext j
  unfold zDV va_up
  by_cases h : j = 83
  · rw [if_pos h, h]
  · rw [if_neg h]
    by_cases h1 : j = 82
    · rw [if_pos h1, h1]
    · rw [if_neg h1]
theorem upd_eq (f : Nat → Int32) (k : Nat) (x : Int32) : upd f k x k = x := by unfold upd; rw [if_pos rfl]
theorem upd_ne (f : Nat → Int32) {k j : Nat} (x : Int32) (h : j ≠ k) : upd f k x j = f j := by unfold upd; rw [if_neg h]
theorem zmk_up {a c c' : Nat} (f : Nat → Nat) : zmk (a + 1) (fun b => decide (va_up f a c b = c')) = zmk a (fun b => decide (f b = c')) ||| (if c = c' then 2 ^ a else 0) := by
  rw [zmk_s]
  have e1 : zmk a (fun b => decide (va_up f a c b = c')) = zmk a (fun b => decide (f b = c')) := zmk_cong (fun b hb => by rw [zup_ne (by omega)])
  rw [e1, zup_eq]
  by_cases h : c = c' <;> simp [h]
theorem zft_iff {n : Nat} {u : Nat → Nat} (h : zPo n u) {f : Nat → Nat} {a c : Nat} (ha : a < n) : (zmk a (fun b => decide (f b = c)) &&& zfr n u a = 0) ↔ zft u f a c = true := by
  rw [zeq0]
  unfold zft
  rw [zall_iff]
  constructor
  · intro q b hb
    have := q b
    rw [Nat.testBit_and, zmk_bit, zfr_fe h ha (by omega)] at this
    simp only [hb, decide_true, Bool.true_and] at this
    cases h1 : decide (f b = c)
    · rfl
    · rw [h1, Bool.true_and] at this
      rw [this]
      rfl
  · intro q b
    rw [Nat.testBit_and, zmk_bit]
    by_cases hb : b < a
    · have := q b hb
      rw [zfr_fe h ha (by omega)]
      cases h1 : decide (f b = c)
      · simp
      · rw [h1] at this
        cases h2 : zfe u a b
        · simp
        · rw [h2] at this
          cases this
    · simp [hb]
def zDR (n a : Nat) (B C B' C' : Nat → Int32) (r : Option (Nat → Nat)) : Prop := match r with
  | some f' => ∀ b, b < n → B' b = nI (f' b)
  | none => (∀ b, b < a → B' b = B b) ∧ ∀ c, c < 8 → C' c = C c
def zPR (n a : Nat) (B B' : Nat → Int32) (r : Option (Nat → Nat)) : Prop := match r with
  | some f' => ∀ b, b < n → B' b = nI (f' b)
  | none => ∀ b, b < a → B' b = B b
section ZPa
variable {X : zX} {I A : zF2} {t : zW} {q n : Nat} {u : Nat → Nat}
set_option maxHeartbeats 2000000 in
theorem v_divide (h : zOR I A q n u) {m : Nat} (hm : m ≤ 8) : ∀ (k a g : Nat) (f : Nat → Nat), a + k = n → g ≤ 8 → (∀ b, b < a → f b < 8) → ∀ B C : Nat → Int32, (∀ b, b < a → B b = nI (f b)) → (∀ c, c < 8 → C c = nI (zmk a (fun b => decide (f b = c)))) → zEv X (2 + k) 0 0 MX1_divide [.ref q, .ref 82, .ref 83, .int (nI a), .int (nI g), .int (nI m)] (zWd I (zDV A B C) t) (fun v w1 => v = some (.int (zB (zdv u m k a g f).isSome)) ∧ ∃ B' C', w1 = zWd I (zDV A B' C') t ∧ zDR n a B C B' C' (zdv u m k a g f)) := by
  intro k
  induction k with
  | zero =>
    intro a g f hk hg hf B C hB hC
    have h8 := h.n8
    have h0 := zDV_or h B C
    refine eX1_divide _ _ _ _ _ _ (bX1_divide_0 _ _ _ _ _ _ (zvRd h0.1.ob (v_hasN h0 (by omega)) (by omega) ?_))
    rw [zB_ifP, if_neg (by omega)]
    refine ⟨rfl, B, C, rfl, ?_⟩
    intro b hb
    exact hB b (by omega)
  | succ k ih =>
    intro a g f hk hg hf B C hB hC
    have h8 := h.n8
    have h0 := zDV_or h B C
    refine eX1_divide _ _ _ _ _ _ (bX1_divide_0 _ _ _ _ _ _ (zvRd h0.1.ob (v_hasN h0 (by omega)) (by omega) ?_))
    rw [zB_ifP, if_pos (by omega), zdv_s]
    have loop : ∀ (j c : Nat), c + j = min (g + 1) m → ∀ B C : Nat → Int32, (∀ b, b < a → B b = nI (f b)) → (∀ c, c < 8 → C c = nI (zmk a (fun b => decide (f b = c)))) → zRn X (2 + (k + 1)) 0 0 MX1_divide 13 [some (.ref q), some (.ref 82), some (.ref 83), some (.int (nI a)), some (.int (nI g)), some (.int (nI m)), some (.int (nI c))] [] (zWd I (zDV A B C) t) (fun v w1 => v = some (.int (zB (zfs (fun c => if zft u f a c = true then zdv u m k (a + 1) (max g (c + 1)) (va_up f a c) else none) j c).isSome)) ∧ ∃ B' C', w1 = zWd I (zDV A B' C') t ∧ zDR n a B C B' C' (zfs (fun c => if zft u f a c = true then zdv u m k (a + 1) (max g (c + 1)) (va_up f a c) else none) j c)) := by
      intro j
      induction j with
      | zero =>
        intro c hc B C hB hC
        refine bX1_divide_13 _ _ _ _ _ _ _ ?_
        rw [zi_lt (by omega) (by omega)]
        by_cases c1 : g < c
        · rw [if_pos c1]
          exact ⟨rfl, B, C, rfl, fun _ _ => rfl, fun _ _ => rfl⟩
        · rw [if_neg c1, zi_le (by omega) (by omega), if_pos (by omega)]
          exact ⟨rfl, B, C, rfl, fun _ _ => rfl, fun _ _ => rfl⟩
      | succ j jh =>
        intro c hc B C hB hC
        have h0 := zDV_or h B C
        have g1 : zaI (zWd I (zDV A B C) t) 83 (nI c) = some (nI (zmk a (fun b => decide (f b = c)))) := by
          rw [ar_83.rd (by omega), zDV_83, hC c (by omega)]
        have l1 := zmk_lt a (fun b => decide (f b = c))
        have l2 : 2 ^ a ≤ 256 := z28 (by omega)
        have l3 : zmk a (fun b => decide (f b = c)) &&& zfr n u a ≤ zmk a (fun b => decide (f b = c)) := Nat.and_le_left
        have nb : (zmk a (fun b => decide (f b = c))).testBit a = false := zbit_hi l1 (Nat.le_refl _)
        refine bX1_divide_13 _ _ _ _ _ _ _ ?_
        rw [zi_lt (by omega) (by omega), if_neg (by omega), zi_le (by omega) (by omega), if_neg (by omega)]
        show if nI 8 ≤ nI c then _ else _
        rw [zi_le (by omega) (by omega), if_neg (by omega)]
        refine ⟨_, g1, zvRd h0.1.ob (v_freeOf h0 (by omega)) (by omega) ?_⟩
        rw [zb_and, zi_0 (by omega)]
        by_cases hc0 : zmk a (fun b => decide (f b = c)) &&& zfr n u a = 0
        · have hft := (zft_iff h.2.1 (show a < n by omega)).mp hc0
          rw [if_pos hc0]
          refine ⟨_, g1, ?_⟩
          rw [zb_1 a (by omega), zb_or]
          refine ⟨_, ar_83.wr (by omega), ?_⟩
          rw [zDV_83, zDV_s83]
          refine ⟨_, ar_82.wr (by omega), by omega, ?_⟩
          rw [zDV_82, zDV_s82]
          have eg : (if nI g < nI c + 1 then nI c + 1 else nI g) = nI (max g (c + 1)) := by
            rw [nI_1, zi_lt (by omega) (by omega)]
            split
            · rw [show max g (c + 1) = c + 1 by omega]
            · rw [show max g (c + 1) = g by omega]
          rw [nI_1, eg]
          have hcall := ih (a + 1) (max g (c + 1)) (va_up f a c) (by omega) (by omega) (fun b hb => by
            by_cases e : b = a
            · rw [e, zup_eq]
              omega
            · rw [zup_ne e]
              exact hf b (by omega)) (upd B a (nI c)) (upd C c (nI (zmk a (fun b => decide (f b = c)) ||| 2 ^ a))) (fun b hb => by
            by_cases e : b = a
            · rw [e, zup_eq, upd_eq]
            · rw [zup_ne e, upd_ne _ _ e]
              exact hB b (by omega)) (fun c' hc' => by
            rw [zmk_up]
            by_cases e : c' = c
            · rw [e, upd_eq, if_pos rfl]
            · rw [upd_ne _ _ e, if_neg (fun z => e z.symm), Nat.or_zero]
              exact hC c' hc')
          refine ⟨_, _, ?_, hcall, ?_⟩
          · omega
          · rintro v w1 ⟨rfl, B2, C2, rfl, hR⟩
            refine ⟨_, rfl, ?_⟩
            cases hz : zdv u m k (a + 1) (max g (c + 1)) (va_up f a c) with
            | some f' =>
              have ez : zfs (fun c => if zft u f a c = true then zdv u m k (a + 1) (max g (c + 1)) (va_up f a c) else none) (j + 1) c = some f' := zfs_y (by
                show (if zft u f a c = true then zdv u m k (a + 1) (max g (c + 1)) (va_up f a c) else none) = _
                rw [if_pos hft, hz])
              rw [if_neg (show ¬ zB (some f').isSome = 0 by show ¬ (1 : Int32) = 0; decide)]
              rw [ez]
              rw [hz] at hR
              exact ⟨rfl, B2, C2, rfl, hR⟩
            | none =>
              have ez : zfs (fun c => if zft u f a c = true then zdv u m k (a + 1) (max g (c + 1)) (va_up f a c) else none) (j + 1) c = zfs (fun c => if zft u f a c = true then zdv u m k (a + 1) (max g (c + 1)) (va_up f a c) else none) j (c + 1) := zfs_n (by
                show (if zft u f a c = true then zdv u m k (a + 1) (max g (c + 1)) (va_up f a c) else none) = _
                rw [if_pos hft, hz])
              rw [if_pos (show zB (none : Option (Nat → Nat)).isSome = 0 from rfl)]
              rw [ez]
              rw [hz] at hR
              obtain ⟨r1, r2⟩ := hR
              have e2 : C2 c = nI (zmk a (fun b => decide (f b = c)) ||| 2 ^ a) := by rw [r2 c (by omega), upd_eq]
              have g2 : zaI (zWd I (zDV A B2 C2) t) 83 (nI c) = some (nI (zmk a (fun b => decide (f b = c)) ||| 2 ^ a)) := by
                rw [ar_83.rd (by omega), zDV_83, e2]
              refine ⟨_, g2, ?_⟩
              rw [zb_df, zo_df _ _ nb]
              refine ⟨_, ar_83.wr (by omega), bX1_divide_99 _ _ _ _ _ _ _ ?_⟩
              rw [zDV_83, zDV_s83, nI_1]
              have b2 : ∀ b, b < a → B2 b = B b := fun b hb => by rw [r1 b (by omega), upd_ne _ _ (by omega)]
              have c2 : ∀ c', c' < 8 → upd C2 c (nI (zmk a (fun b => decide (f b = c)))) c' = C c' := fun c' hc' => by
                by_cases e : c' = c
                · rw [e, upd_eq, hC c (by omega)]
                · rw [upd_ne _ _ e, r2 c' hc', upd_ne _ _ e]
              refine (jh (c + 1) (by omega) B2 (upd C2 c (nI (zmk a (fun b => decide (f b = c))))) (fun b hb => by rw [b2 b hb]; exact hB b hb) (fun c' hc' => by rw [c2 c' hc']; exact hC c' hc')).conseq ?_
              rintro v w1 ⟨rfl, B3, C3, rfl, hR3⟩
              refine ⟨rfl, B3, C3, rfl, ?_⟩
              revert hR3
              cases zfs (fun c => if zft u f a c = true then zdv u m k (a + 1) (max g (c + 1)) (va_up f a c) else none) j (c + 1) with
              | some f' => exact fun z => z
              | none => exact fun z => ⟨fun b hb => (z.1 b hb).trans (b2 b hb), fun c' hc' => (z.2 c' hc').trans (c2 c' hc')⟩
        · have hft : ¬ zft u f a c = true := fun z => hc0 ((zft_iff h.2.1 (show a < n by omega)).mpr z)
          have ez : zfs (fun c => if zft u f a c = true then zdv u m k (a + 1) (max g (c + 1)) (va_up f a c) else none) (j + 1) c = zfs (fun c => if zft u f a c = true then zdv u m k (a + 1) (max g (c + 1)) (va_up f a c) else none) j (c + 1) := zfs_n (by
            show (if zft u f a c = true then zdv u m k (a + 1) (max g (c + 1)) (va_up f a c) else none) = _
            rw [if_neg hft])
          rw [if_neg hc0, ez]
          refine bX1_divide_99 _ _ _ _ _ _ _ ?_
          rw [nI_1]
          exact jh (c + 1) (by omega) B C hB hC
    exact loop (min (g + 1) m) 0 (by omega) B C hB hC
theorem v_chainOf (h : zOR I A q n u) {a : Nat} (ha : a < n) : zEv X 12 0 0 MX1_chainOf [.ref 80, .ref q, .int (nI a)] (zWd I A t) (fun v w1 => v = some (.int (nI (zprt n u a))) ∧ ∃ B C, w1 = zWd I (zDV A B C) t) := by
  have h8 := h.n8
  have h28 := z28 h8
  have hw := zwi_lt n u
  refine eX1_chainOf _ _ _ (bX1_chainOf_0 _ _ _ (zcRd (v_widest h) (by decide) (zcRd (v_bc (by omega)) (by decide) ?_)))
  have key : ∀ j, j ≤ 8 → ∀ B C : Nat → Int32, (∀ c, c < j → C c = 0) → zRn X 12 0 0 MX1_chainOf 11 [some (.ref 80), some (.ref q), some (.int (nI a)), some (.int (nI (zpc (zwi n u)))), some (.int (nI j))] [] (zWd I (zDV A B C) t) (fun v w1 => v = some (.int (nI (zprt n u a))) ∧ ∃ B C, w1 = zWd I (zDV A B C) t) := by
    refine zdown ?_ ?_
    · intro B C hC
      refine bX1_chainOf_11 _ _ _ _ _ ?_
      rw [if_pos (by decide)]
      refine ⟨_, fr_80_1.rd, _, fr_80_2.rd, ?_⟩
      have hcall := v_divide (X := X) (t := t) h (zpc8 (zwi n u)) n 0 0 (fun _ => 0) (by omega) (by decide) (fun b hb => absurd hb (Nat.not_lt_zero _)) B C (fun b hb => absurd hb (Nat.not_lt_zero _)) (fun c hc => hC c hc)
      rw [zprt_ok h.2.1] at hcall
      refine ⟨_, _, ?_, hcall, ?_⟩
      · omega
      · rintro v w1 ⟨rfl, B2, C2, rfl, hR⟩
        have h0 := zDV_or h B2 C2
        refine ⟨_, rfl, zvRd h0.1.ob (v_hasN h0 (by omega)) (by omega) ?_⟩
        rw [zB_ifP, if_pos ha]
        refine ⟨_, fr_80_1.rd, _, ar_82.rd (by omega), ?_, B2, C2, rfl⟩
        rw [zDV_82]
        have := hR a ha
        rw [this]
    · intro j hj ih B C hC
      refine bX1_chainOf_11 _ _ _ _ _ ?_
      show if nI 8 ≤ nI j then _ else _
      rw [zi_le (by omega) (by omega), if_neg (by omega)]
      refine ⟨_, fr_80_2.rd, _, ar_83.wr hj, ?_⟩
      rw [zDV_83, zDV_s83, nI_1]
      refine ih B _ (fun c hc => ?_)
      by_cases e : c = j
      · rw [e, upd_eq]
      · rw [upd_ne _ _ e]
        exact hC c (by omega)
  have k0 := key 0 (Nat.zero_le _) (A 82) (A 83) (fun c hc => absurd hc (Nat.not_lt_zero _))
  rw [zDV_id] at k0
  exact k0
end ZPa
section ZPb
variable {X : zX} {I A : zF2} {t : zW} {s n R : Nat} {u : Nat → Nat} {h : Nat → Nat → Nat}
theorem m_pfit (H : zMR A s n u R h) {d a c g m : Nat} (hd : 3 < d) {f : Nat → Nat} (ha : a < n) (hc : c < 8) (hf : ∀ b, b < a → f b < 8) (D : Nat → Int32) (hD : ∀ b, b < a → D b = nI (f b)) {Q : Option Value → zW → Prop} (k : zRn X d 0 0 MX12_parts 33 [some (.ref 98), some (.int (nI s)), some (.int (nI a)), some (.int (nI g)), some (.int (nI m)), some (.int (nI c)), some (.int (zB (zft u f a c))), some (.int (nI a))] [] (zWd I (va_up A 103 D) t) Q) :
    zRn X d 0 0 MX12_parts 33 [some (.ref 98), some (.int (nI s)), some (.int (nI a)), some (.int (nI g)), some (.int (nI m)), some (.int (nI c)), some (.int 1), some (.int 0)] [] (zWd I (va_up A 103 D) t) Q := by
  have h8 := H.2.1.1
  have H1 := H.up (p := 103) (f := D) (by decide)
  have key := zdown (P := fun b => zRn X d 0 0 MX12_parts 33 [some (.ref 98), some (.int (nI s)), some (.int (nI a)), some (.int (nI g)), some (.int (nI m)), some (.int (nI c)), some (.int (zB (zall b (fun b => !decide (f b = c) || !zfe u a b)))), some (.int (nI b))] [] (zWd I (va_up A 103 D) t) Q) (n := a) k (fun b hb ih => by
    rw [zall_s] at ih
    have hfb := hf b hb
    refine bX12_parts_33 _ _ _ _ _ _ _ _ ?_
    rw [zi_le (by omega) (by omega), if_neg (by omega), zB_if]
    cases hz : zall b (fun b => !decide (f b = c) || !zfe u a b)
    · rw [if_neg (by decide)]
      rw [hz, Bool.false_and] at ih
      refine bX12_parts_71 _ _ _ _ _ _ _ (bX12_parts_72 _ _ _ _ _ _ _ _ ?_)
      rw [nI_1]
      exact ih
    · rw [if_pos rfl]
      rw [hz, Bool.true_and] at ih
      have g1 : zaI (zWd I (va_up A 103 D) t) 103 (nI b) = some (nI (f b)) := by
        rw [ar_103.rd (by omega), zup_eq, hD b hb]
      refine ⟨_, fr_98_13.rd, _, g1, ?_⟩
      rw [zi_eq (by omega) (by omega)]
      by_cases e : f b = c
      · rw [if_pos e]
        refine zvRd ob_98 (m_areFree H1 (by omega) (by omega)) (by omega) ?_
        rw [zB_if]
        rw [decide_eq_true e] at ih
        cases hfe : zfe u a b
        · rw [if_neg (by decide)]
          rw [hfe] at ih
          refine bX12_parts_67 _ _ _ _ _ _ _ (bX12_parts_72 _ _ _ _ _ _ _ _ ?_)
          rw [nI_1]
          exact ih
        · rw [if_pos rfl]
          rw [hfe] at ih
          refine bX12_parts_71 _ _ _ _ _ _ _ (bX12_parts_72 _ _ _ _ _ _ _ _ ?_)
          rw [nI_1]
          exact ih
      · rw [if_neg e]
        rw [decide_eq_false e] at ih
        refine bX12_parts_67 _ _ _ _ _ _ _ (bX12_parts_72 _ _ _ _ _ _ _ _ ?_)
        rw [nI_1]
        exact ih) 0 (Nat.zero_le _)
  rw [zall_z] at key
  exact key
set_option maxHeartbeats 2000000 in
theorem m_parts (H : zMR A s n u R h) {m : Nat} (hm : m ≤ 8) : ∀ (k a g : Nat) (f : Nat → Nat), a + k = n → g ≤ 8 → (∀ b, b < a → f b < 8) → ∀ D : Nat → Int32, (∀ b, b < a → D b = nI (f b)) → zEv X (4 + k) 0 0 MX12_parts [.ref 98, .int (nI s), .int (nI a), .int (nI g), .int (nI m)] (zWd I (va_up A 103 D) t) (fun v w1 => v = some (.int (zB (zdv u m k a g f).isSome)) ∧ ∃ D', w1 = zWd I (va_up A 103 D') t ∧ zPR n a D D' (zdv u m k a g f)) := by
  intro k
  induction k with
  | zero =>
    intro a g f hk hg hf D hD
    have h8 := H.2.1.1
    have H1 := H.up (p := 103) (f := D) (by decide)
    refine eX12_parts _ _ _ _ _ (bX12_parts_0 _ _ _ _ _ (zvRd ob_98 (m_many H1) (by omega) ?_))
    rw [zi_eq (by omega) (by omega), if_pos (by omega)]
    refine ⟨rfl, D, rfl, ?_⟩
    intro b hb
    exact hD b (by omega)
  | succ k ih =>
    intro a g f hk hg hf D hD
    have h8 := H.2.1.1
    have H1 := H.up (p := 103) (f := D) (by decide)
    refine eX12_parts _ _ _ _ _ (bX12_parts_0 _ _ _ _ _ (zvRd ob_98 (m_many H1) (by omega) ?_))
    rw [zi_eq (by omega) (by omega), if_neg (by omega), zdv_s]
    generalize hF : (fun c => if zft u f a c = true then zdv u m k (a + 1) (max g (c + 1)) (va_up f a c) else none) = F
    have loop : ∀ (j c : Nat), c + j = min (g + 1) m → ∀ D : Nat → Int32, (∀ b, b < a → D b = nI (f b)) → zRn X (4 + (k + 1)) 0 0 MX12_parts 14 [some (.ref 98), some (.int (nI s)), some (.int (nI a)), some (.int (nI g)), some (.int (nI m)), some (.int (nI c)), none, none] [] (zWd I (va_up A 103 D) t) (fun v w1 => v = some (.int (zB (zfs F j c).isSome)) ∧ ∃ D', w1 = zWd I (va_up A 103 D') t ∧ zPR n a D D' (zfs F j c)) := by
      intro j
      induction j with
      | zero =>
        intro c hc D hD
        refine bX12_parts_14 _ _ _ _ _ _ ?_
        rw [zi_lt (by omega) (by omega)]
        by_cases c1 : g < c
        · rw [if_pos c1]
          exact ⟨rfl, D, rfl, fun _ _ => rfl⟩
        · rw [if_neg c1, zi_le (by omega) (by omega), if_pos (by omega)]
          exact ⟨rfl, D, rfl, fun _ _ => rfl⟩
      | succ j jh =>
        intro c hc D hD
        refine bX12_parts_14 _ _ _ _ _ _ ?_
        rw [zi_lt (by omega) (by omega), if_neg (by omega), zi_le (by omega) (by omega), if_neg (by omega)]
        refine m_pfit H (by omega) (by omega) (by omega) hf D hD ?_
        refine bX12_parts_33 _ _ _ _ _ _ _ _ ?_
        rw [if_pos (Int32.le_refl _)]
        refine ⟨_, fr_98_13.rd, _, ar_103.wr (by omega), ?_⟩
        rw [zup_eq, bx_uu, zB_if]
        have d1 : ∀ b, b < a → upd D a (nI c) b = D b := fun b hb => upd_ne _ _ (by omega)
        have next : F c = none → ∀ D2 : Nat → Int32, (∀ b, b < a → D2 b = D b) → zRn X (4 + (k + 1)) 0 0 MX12_parts 121 [some (.ref 98), some (.int (nI s)), some (.int (nI a)), some (.int (nI g)), some (.int (nI m)), some (.int (nI c)), none, none] [] (zWd I (va_up A 103 D2) t) (fun v w1 => v = some (.int (zB (zfs F (j + 1) c).isSome)) ∧ ∃ D', w1 = zWd I (va_up A 103 D') t ∧ zPR n a D D' (zfs F (j + 1) c)) := by
          intro hn D2 h2
          rw [zfs_n hn]
          refine bX12_parts_121 _ _ _ _ _ _ ?_
          rw [nI_1]
          refine (jh (c + 1) (by omega) D2 (fun b hb => by rw [h2 b hb]; exact hD b hb)).conseq ?_
          rintro v w1 ⟨rfl, D3, rfl, hR3⟩
          refine ⟨rfl, D3, rfl, ?_⟩
          revert hR3
          cases zfs F j (c + 1) with
          | some f' => exact fun z => z
          | none => exact fun z => fun b hb => (z b hb).trans (h2 b hb)
        cases hft : zft u f a c
        · rw [if_neg (by decide)]
          refine next ?_ _ d1
          rw [← hF]
          show (if zft u f a c = true then _ else none) = none
          rw [hft, if_neg (by decide)]
        · rw [if_pos rfl]
          have e1 : F c = zdv u m k (a + 1) (max g (c + 1)) (va_up f a c) := by
            rw [← hF]
            show (if zft u f a c = true then _ else none) = _
            rw [hft, if_pos rfl]
          have go : zRn X (4 + (k + 1)) 0 0 MX12_parts 111 [some (.ref 98), some (.int (nI s)), some (.int (nI a)), some (.int (nI g)), some (.int (nI m)), some (.int (nI c)), none, none] [.int (nI (max g (c + 1))), .int (nI (a + 1)), .int (nI s), .ref 98] (zWd I (va_up A 103 (upd D a (nI c))) t) (fun v w1 => v = some (.int (zB (zfs F (j + 1) c).isSome)) ∧ ∃ D', w1 = zWd I (va_up A 103 D') t ∧ zPR n a D D' (zfs F (j + 1) c)) := by
            have hcall := ih (a + 1) (max g (c + 1)) (va_up f a c) (by omega) (by omega) (fun b hb => by
              by_cases e : b = a
              · rw [e, zup_eq]
                omega
              · rw [zup_ne e]
                exact hf b (by omega)) (upd D a (nI c)) (fun b hb => by
              by_cases e : b = a
              · rw [e, zup_eq, upd_eq]
              · rw [zup_ne e, upd_ne _ _ e]
                exact hD b (by omega))
            refine bX12_parts_111 _ _ _ _ _ _ _ _ _ _ ⟨ob_98.is, _, _, ?_, hcall, ?_⟩
            · omega
            · rintro v w1 ⟨rfl, D2, rfl, hR⟩
              refine ⟨_, rfl, ?_⟩
              rw [← e1] at hR ⊢
              cases hz : F c with
              | some f' =>
                rw [if_neg (show ¬ zB (some f').isSome = 0 by show ¬ (1 : Int32) = 0; decide), zfs_y hz]
                rw [hz] at hR
                exact ⟨rfl, D2, rfl, hR⟩
              | none =>
                rw [if_pos (show zB (none : Option (Nat → Nat)).isSome = 0 from rfl)]
                rw [hz] at hR
                exact next hz D2 (fun b hb => (hR b (by omega)).trans (d1 b hb))
          rw [nI_1, nI_1, zi_eq (by omega) (by omega)]
          by_cases e : c = g
          · rw [if_pos e, show g + 1 = max g (c + 1) by omega]
            exact go
          · rw [if_neg e]
            have e3 : max g (c + 1) = g := by omega
            rw [e3] at go
            exact go
    exact loop (min (g + 1) m) 0 (by omega) D hD
theorem q_part {S : Nat → zSl} {x y : Int32} : zSame X MX11_part MX12_part [.int x, .int y] S := by
  rcases zslot S x with ⟨s, hs⟩ | hn
  · by_cases hy : zin (S s).1 y = true
    · obtain ⟨a, ha, rfl⟩ := zin_e.mp hy
      refine ⟨nI (zprt (S s).1 (S s).2.1 a), fun I A t hC => zQy.mk 13 (by decide) ?_, fun I A t hM => zQy.mk 13 (by decide) ?_⟩
      · have h0 := hC s hs.1
        refine eX11_part _ _ _ (bX11_part_0 _ _ _ (zvO1 ob_0 (v_orderWith2 hC hs ha) (by decide) ⟨_, fr_0_6.rd, zvI1 ob_80 (v_chainOf h0.1 ha) (by decide) ?_⟩))
        rintro w1 ⟨B, C, rfl⟩
        exact zQk.of (((zKp.refl I A).a (p := 82) (by decide)).a (p := 83) (by decide))
      · have h1 := m_thing1 (X := X) (I := I) (t := t) (y := nI a) hM hs
        obtain ⟨s3, rfl, s0⟩ := hs
        have H : zMR A s (S s).1 (S s).2.1 (S s).2.2.1 (S s).2.2.2 := hM s s3
        have h8 := H.2.1.1
        have h28 := z28 h8
        have hw := zwi_lt (S s).1 (S s).2.1
        refine eX12_part _ _ _ (bX12_part_0 _ _ _ (zvRd ob_98 h1 (by decide) ?_))
        rw [zB_t hy]
        refine zvRd ob_98 (m_antiOf H) (by decide) (zcRd (m_ones (by omega)) (by decide) ?_)
        have hcall := m_parts (X := X) (I := I) (t := t) H (zpc8 (zwi (S s).1 (S s).2.1)) (S s).1 0 0 (fun _ => 0) (by omega) (by decide) (fun b hb => absurd hb (Nat.not_lt_zero _)) (A 103) (fun b hb => absurd hb (Nat.not_lt_zero _))
        rw [zprt_ok H.2.1, zup_self] at hcall
        refine ⟨ob_98.is, _, _, ?_, hcall, ?_⟩
        · omega
        · rintro v w1 ⟨rfl, D, rfl, hR⟩
          refine ⟨_, rfl, _, fr_98_13.rd, _, ar_103.rd (by omega), ?_⟩
          rw [zup_eq]
          have := hR a ha
          rw [this]
          exact zQk.of ((zKp.refl I A).a (p := 103) (by decide))
    · rw [Bool.not_eq_true] at hy
      refine ⟨-2, fun I A t hC => zQy.mk 5 (by decide) ?_, fun I A t hM => zQy.mk 5 (by decide) ?_⟩
      · exact eX11_part _ _ _ (bX11_part_0 _ _ _ (zvO0 ob_0 (v_orderWith1 hC hs hy) (by decide) (zQk.id _ _ _ _)))
      · refine eX12_part _ _ _ (bX12_part_0 _ _ _ (zvRd ob_98 (m_thing1 hM hs) (by decide) ?_))
        rw [zB_f hy]
        exact zQk.id _ _ _ _
  · refine ⟨-2, fun I A t hC => zQy.mk 5 (by decide) ?_, fun I A t hM => zQy.mk 5 (by decide) ?_⟩
    · exact eX11_part _ _ _ (bX11_part_0 _ _ _ (zvO0 ob_0 (v_orderWith0 hC hn) (by decide) (zQk.id _ _ _ _)))
    · refine eX12_part _ _ _ (bX12_part_0 _ _ _ (zvRd ob_98 (m_thing0 hM hn) (by decide) ?_))
      rw [if_pos rfl]
      exact zQk.id _ _ _ _
end ZPb
