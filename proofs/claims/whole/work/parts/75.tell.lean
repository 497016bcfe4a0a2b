/-! ===== tell: the text ===== -/
def zwd : Nat → List Nat
  | 2 => [111, 114, 100, 101, 114, 32]
  | 3 => [114, 111, 119, 32]
  | 4 => [44]
  | 5 => [58]
  | 6 => [60]
  | 7 => [59]
  | _ => []
def zwt (i : Nat) : Nat → List Nat
  | 0 => []
  | k + 1 => zwt i k ++ [(zwd i).getD k 0]
def zti (n : Nat) (u : Nat → Nat) (a : Nat) : Nat → List Nat × Bool → List Nat × Bool
  | 0, s => s
  | k + 1, s => if zcv n u a k = true then ((zti n u a k s).1 ++ [cond (zti n u a k s).2 58 44] ++ [48 + a] ++ [60] ++ [48 + k], false) else zti n u a k s
def zto (n : Nat) (u : Nat → Nat) : Nat → List Nat × Bool → List Nat × Bool
  | 0, s => s
  | k + 1, s => zti n u k n (zto n u k s)
def zrl (h : Nat → Nat) : Nat → List Nat → List Nat
  | 0, l => l
  | k + 1, l => zrl h k l ++ [48 + h k]
def zrw (n : Nat) (h : Nat → Nat → Nat) : Nat → List Nat → List Nat
  | 0, l => l
  | r + 1, l => zrl (h r) n (zrw n h r l ++ zwd 3) ++ [59]
def zTe0 (n : Nat) : List Nat × Bool := (zwd 2 ++ [48 + n], true)
def zTe (x : zSl) : List Nat := zrw x.1 x.2.2.2 x.2.2.1 ((zto x.1 x.2.1 x.1 (zTe0 x.1)).1 ++ [59])
theorem zti_len (n : Nat) (u : Nat → Nat) (a : Nat) (s : List Nat × Bool) : ∀ k, (zti n u a k s).1.length = s.1.length + 4 * zsm k (fun b => zq1 (zcv n u a b))
  | 0 => rfl
  | k + 1 => by
    have ih := zti_len n u a s k
    rw [zsm_s]
    show (if _ then _ else _ : List Nat × Bool).1.length = _
    by_cases c : zcv n u a k = true
    · rw [if_pos c, c]
      simp only [List.length_append, List.length_cons, List.length_nil]
      have : zq1 true = 1 := rfl
      omega
    · rw [if_neg c]
      rw [Bool.not_eq_true] at c
      rw [c]
      have : zq1 false = 0 := rfl
      omega
theorem zto_len (n : Nat) (u : Nat → Nat) (s : List Nat × Bool) : ∀ k, (zto n u k s).1.length = s.1.length + 4 * zsm k (fun a => zsm n (fun b => zq1 (zcv n u a b)))
  | 0 => rfl
  | k + 1 => by
    show (zti n u k n (zto n u k s)).1.length = _
    rw [zti_len, zto_len n u s k, zsm_s]
    omega
theorem zrl_len (h : Nat → Nat) (l : List Nat) : ∀ k, (zrl h k l).length = l.length + k
  | 0 => rfl
  | k + 1 => by
    show (zrl h k l ++ [48 + h k]).length = _
    rw [List.length_append, zrl_len h l k]
    simp only [List.length_cons, List.length_nil]
    omega
theorem zrw_len (n : Nat) (h : Nat → Nat → Nat) (l : List Nat) : ∀ r, (zrw n h r l).length = l.length + r * (n + 5)
  | 0 => by rw [Nat.zero_mul]; rfl
  | r + 1 => by
    show (zrl (h r) n (zrw n h r l ++ zwd 3) ++ [59]).length = _
    rw [List.length_append, zrl_len, List.length_append, zrw_len n h l r, Nat.succ_mul]
    simp only [List.length_cons, List.length_nil, zwd]
    omega
theorem zTe_len {x : zSl} (hx : zVl x) : (zTe x).length ≤ 160 := by
  unfold zTe
  rw [zrw_len, List.length_append, zto_len]
  have h := zcov16 hx.1
  have h8 := hx.1.1
  have h6 := hx.2.1.1
  have : x.2.2.1 * (x.1 + 5) ≤ 6 * 13 := Nat.mul_le_mul h6 (by omega)
  simp only [List.length_cons, List.length_nil, zwd, zTe0, List.length_append]
  omega
theorem zti_bd (n : Nat) (u : Nat → Nat) (a : Nat) (s : List Nat × Bool) (k : Nat) : (zti n u a k s).1.length ≤ s.1.length + 4 * k := by
  rw [zti_len]
  have := zsm_bd (g := fun b => zq1 (zcv n u a b)) (c := 1) (n := k) (fun j _ => zq1_le _)
  omega
theorem zto_bd {n : Nat} (hn : n ≤ 8) (u : Nat → Nat) (s : List Nat × Bool) (k : Nat) : (zto n u k s).1.length ≤ s.1.length + 32 * k := by
  rw [zto_len]
  have := zsm_bd (g := fun a => zsm n (fun b => zq1 (zcv n u a b))) (c := 8) (n := k) (fun j _ => by
    have := zsm_bd (g := fun b => zq1 (zcv n u j b)) (c := 1) (n := n) (fun j _ => zq1_le _)
    omega)
  omega
/-- the bytes laid so far -/
def zOl (v : Int32) (f : Nat → Int32) (l : List Nat) : Prop := v = nI l.length ∧ ∀ i, i < l.length → f i = nI (l.getD i 0) ∧ l.getD i 0 < 256
theorem zOl.snoc {v : Int32} {f : Nat → Int32} {l : List Nat} {b : Nat} (h : zOl v f l) (hb : b < 256) : zOl (v + 1) (upd f l.length (nI b)) (l ++ [b]) := by
  refine ⟨by rw [h.1, nI_1, List.length_append]; rfl, fun i hi => ?_⟩
  rw [List.length_append] at hi
  simp only [List.length_cons, List.length_nil] at hi
  rcases Nat.lt_or_ge i l.length with q | q
  · rw [upd_ne _ _ (by omega), List.getD_eq_getElem?_getD, List.getElem?_append_left q, ← List.getD_eq_getElem?_getD]
    exact h.2 i q
  · have : i = l.length := by omega
    subst this
    rw [upd_eq, List.getD_eq_getElem?_getD, List.getElem?_append_right (Nat.le_refl _), Nat.sub_self]
    exact ⟨rfl, hb⟩
theorem zm255 {b : Nat} (hb : b < 256) : nI b &&& 255 = nI b := by
  show nI b &&& nI 255 = _
  rw [zb_and, show b &&& 255 = b % 2 ^ 8 from Nat.and_two_pow_sub_one_eq_mod b 8, Nat.mod_eq_of_lt (by omega)]
theorem zwt_full : ∀ i, i < 8 → 2 ≤ i → zwt i (zsLen.getD i 0) = zwd i := by decide
theorem zwd_byt : ∀ i, i < 8 → 2 ≤ i → ∀ k, k < zsLen.getD i 0 → (zsByt.getD i []).getD k 0 = nI ((zwd i).getD k 0) ∧ (zwd i).getD k 0 < 256 := by decide
theorem zsLen_lt : ∀ i, i < 8 → zsLen.getD i 0 < 10 := by decide
/-- the class's store p: only it differs -/
def zOt (p : Nat) (I A I' A' : zF2) : Prop := ∀ j, j ≠ p → j ≠ p + 1 → A' j = A j ∧ I' j = I j
theorem zOt.refl (p : Nat) (I A : zF2) : zOt p I A I A := fun _ _ _ => ⟨rfl, rfl⟩
theorem zOt.cs {p q : Nat} {I A I' A' : zF2} {x : zSl} (h : zOt p I A I' A') (hq : q + 5 ≤ p) (H : zCS I A q x) : zCS I' A' q x := H.same (fun r hr => h _ (by omega) (by omega))
def zKl (p cap : Nat) (I0 A0 : zF2) (l : List Nat) (I A : zF2) : Prop := zOt p I0 A0 I A ∧ zOl (I p 1) (A (p + 1)) (l.take cap)
section ZTe
variable {X : zX} {I A I0 A0 : zF2} {t : zW} {p cap d : Nat} {l : List Nat} {K : zW → Prop}
theorem v_put (hT : zT_ p cap) (h : zKl p cap I0 A0 l I A) {a : Int32} {b : Nat} (ha : a &&& 255 = nI b) (hb : b < 256) : zEv X 0 0 0 MX0_put [.ref p, .int a] (zWd I A t) (fun v w1 => v = none ∧ ∃ I' A', w1 = zWd I' A' t ∧ zKl p cap I0 A0 (l ++ [b]) I' A') := by
  obtain ⟨h1, h2⟩ := h
  have hc := hT.2.2.2.2
  have hl : (l.take cap).length ≤ cap := by rw [List.length_take]; omega
  refine eX0_put _ _ (bX0_put_0 _ _ ⟨_, hT.2.2.1.rd, _, hT.2.1.rd, _, hT.2.2.2.1.len, ?_⟩)
  rw [h2.1, zi_le hc (by omega)]
  by_cases c : cap ≤ (l.take cap).length
  · rw [if_pos c]
    refine ⟨rfl, I, A, rfl, h1, ?_⟩
    rw [List.length_take] at c
    rw [List.take_append_of_le_length (by omega)]
    exact h2
  · rw [if_neg c]
    rw [List.length_take] at c
    have hlt : l.length < cap := by omega
    rw [List.take_of_length_le (by omega)] at h2
    refine ⟨_, hT.2.1.rd, _, hT.2.2.1.rd, ?_⟩
    rw [h2.1, ha]
    refine ⟨_, hT.2.2.2.1.wr (by omega), _, hT.2.2.1.rd, _, hT.2.2.1.wr, rfl, _, _, rfl, fun j hj hj2 => ?_, ?_⟩
    · rw [zup_ne hj2, zup_ne hj]
      exact h1 j hj hj2
    · rw [List.take_of_length_le (by rw [List.length_append]; simp only [List.length_cons, List.length_nil]; omega), zup_eq, zup_eq, upd_eq]
      exact h2.snoc hb
theorem k_put (hT : zT_ p cap) (h : zKl p cap I0 A0 l I A) {a : Int32} {b : Nat} (ha : a &&& 255 = nI b) (hb : b < 256) (hd : 0 < d) (k : ∀ I' A', zKl p cap I0 A0 (l ++ [b]) I' A' → K (zWd I' A' t)) : zIs (zWd I A t) p 0 ∧ zCallV X d MX0_put [.ref p, .int a] (zWd I A t) K :=
  zvV hT.1 (v_put hT h ha hb) hd (by rintro w1 ⟨I', A', rfl, h'⟩; exact k I' A' h')
theorem k_digit (hT : zT_ p cap) (h : zKl p cap I0 A0 l I A) {b : Nat} (hb : b < 200) (hd : 1 < d) (k : ∀ I' A', zKl p cap I0 A0 (l ++ [48 + b]) I' A' → K (zWd I' A' t)) : zIs (zWd I A t) p 0 ∧ zCallV X d MX0_putDigit [.ref p, .int (nI b)] (zWd I A t) K :=
  zvV hT.1 (d1 := 1) (P := fun w1 => ∃ I' A', w1 = zWd I' A' t ∧ zKl p cap I0 A0 (l ++ [48 + b]) I' A') (eX0_putDigit _ _ (bX0_putDigit_0 _ _ (k_put hT h (b := 48 + b) (by
    show (nI 48 + nI b) &&& 255 = _
    rw [nI_add]
    exact zm255 (by omega)) (by omega) (by decide) (fun I' A' h' => ⟨rfl, I', A', rfl, h'⟩)))) hd (by rintro w1 ⟨I', A', rfl, h'⟩; exact k I' A' h')
theorem k_word (hT : zT_ p cap) (h : zKl p cap I0 A0 l I A) {i : Nat} (hi : i < 8) (hi2 : 2 ≤ i) (hd : 6 < d) (k : ∀ I' A', zKl p cap I0 A0 (l ++ zwd i) I' A' → K (zWd I' A' t)) : zIs (zWd I A t) p 0 ∧ zCallV X d MX0_putWord [.ref p, .ref (zTx i)] (zWd I A t) K := by
  refine zvV hT.1 (d1 := 6) (P := fun w1 => ∃ I' A', w1 = zWd I' A' t ∧ zKl p cap I0 A0 (l ++ zwd i) I' A') (eX0_putWord _ _ (bX0_putWord_0 _ _ ?_)) hd (by rintro w1 ⟨I', A', rfl, h'⟩; exact k I' A' h')
  have h10 := zsLen_lt i hi
  have key : ∀ j, j ≤ zsLen.getD i 0 → ∀ I A, zKl p cap I0 A0 (l ++ zwt i j) I A → zRn X 6 0 0 MX0_putWord 2 [some (.ref p), some (.ref (zTx i)), some (.int (nI j))] [] (zWd I A t) (fun v w1 => v = none ∧ ∃ I' A', w1 = zWd I' A' t ∧ zKl p cap I0 A0 (l ++ zwd i) I' A') := by
    refine zdown ?_ ?_
    · intro I A h'
      refine bX0_putWord_2 _ _ _ ⟨by decide, _, zTL_tx hi, ?_⟩
      rw [if_pos (Int32.le_refl _)]
      rw [zwt_full i hi hi2] at h'
      exact ⟨rfl, I, A, rfl, h'⟩
    · intro j hj ih I A h'
      refine bX0_putWord_2 _ _ _ ⟨by decide, _, zTL_tx hi, ?_⟩
      rw [zi_le (by omega) (by omega), if_neg (by omega)]
      have e : (nI j).toNatClampNeg = j := nI_clamp (by omega)
      have b1 := zwd_byt i hi hi2 j hj
      refine ⟨by decide, _, zTC_tx hi ?_, ?_⟩
      · unfold vp_in
        rw [e]
        rintro (q | q)
        · exact nI_pos (by omega) q
        · omega
      · rw [e, b1.1]
        refine k_put hT h' (zm255 b1.2) b1.2 (by decide) (fun I' A' h2 => ?_)
        rw [List.append_assoc] at h2
        rw [nI_1]
        exact ih I' A' h2
  exact key 0 (Nat.zero_le _) I A (by rw [show zwt i 0 = [] from rfl, List.append_nil]; exact h)
end ZTe
