/-! ===== look, of, is, chain, anti, deep ===== -/
theorem zpc_mk (p : Nat → Bool) : ∀ n, n ≤ 8 → zpc (zmk n p) = zsm n (fun a => if p a = true then 1 else 0)
  | 0, _ => zpc0
  | n + 1, h => by
    have ih := zpc_mk p n (by omega)
    have hl := zmk_lt n p
    have h8 := z28 (show n ≤ 8 by omega)
    rw [zsm_s, ← ih]
    show zpc (zmk n p ||| (if p n = true then 2 ^ n else 0)) = _
    by_cases hp : p n = true
    · rw [if_pos hp, if_pos hp]
      exact (zpc_out _ (by omega) n (by omega)).2 (zbit_hi hl (Nat.le_refl _))
    · rw [if_neg hp, if_neg hp, Nat.or_zero, Nat.add_zero]
theorem zmk_u {n : Nat} {u : Nat → Nat} (h : zPo n u) (b : Nat) : zmk n (fun a => zlt u a b) = u b := zext (fun i => by
  rw [zmk_bit]
  rcases Nat.lt_or_ge i n with q | q
  · simp [q]
  · rw [zbit_hi (h.2.1 b) q]
    simp [Nat.not_lt.mpr q])
/-- twos, and free twos, by counting -/
def zTT (u : Nat → Nat) (m : Nat) : Nat := zsm m (fun b => zsm m (fun a => if zlt u a b = true then 1 else 0))
def zFF (u : Nat → Nat) (m : Nat) : Nat := zsm m (fun b => zsm b (fun a => if zfe u a b = true then 1 else 0))
theorem ztw_eq {n : Nat} {u : Nat → Nat} (h : zPo n u) : ztw n u = zTT u n := by
  show zsm n (fun b => zpc (u b)) = _
  refine zsm_cong (fun b _ => ?_)
  rw [← zpc_mk (fun a => zlt u a b) n h.1, zmk_u h b]
theorem zcs_eq {n : Nat} {u : Nat → Nat} (h : zPo n u) : zcs n u = zsm n (fun b => zsm n (fun a => if zcv n u a b = true then 1 else 0)) := by
  show zsm n (fun b => zpc (zcb n u b)) = _
  refine zsm_cong (fun b _ => ?_)
  rw [← zpc_mk (fun a => zcv n u a b) n h.1]
  rfl
theorem zTF {n : Nat} {u : Nat → Nat} (h : zPo n u) : ∀ m, 2 * (zTT u m + zFF u m) = m * (m - 1)
  | 0 => rfl
  | m + 1 => by
    have ih := zTF h m
    have e1 : zTT u (m + 1) = zTT u m + zsm m (fun b => if zlt u m b = true then 1 else 0) + zsm m (fun a => if zlt u a m = true then 1 else 0) := by
      unfold zTT
      rw [zsm_s, zsm_s]
      have : zsm m (fun b => zsm (m + 1) (fun a => if zlt u a b = true then 1 else 0)) = zsm m (fun b => zsm m (fun a => if zlt u a b = true then 1 else 0)) + zsm m (fun b => if zlt u m b = true then 1 else 0) := by
        rw [← zsm_add]
        exact zsm_cong (fun b _ => zsm_s _ _)
      have h0 : zlt u m m = false := h.2.2.2.1 m
      rw [this, h0]
      simp
    have e2 : zFF u (m + 1) = zFF u m + zsm m (fun a => if zfe u a m = true then 1 else 0) := rfl
    have e3 : zsm m (fun b => if zlt u m b = true then 1 else 0) + zsm m (fun a => if zlt u a m = true then 1 else 0) + zsm m (fun a => if zfe u a m = true then 1 else 0) = m := by
      rw [← zsm_add, ← zsm_add]
      have : ∀ k, k ≤ m → zsm k (fun j => (if zlt u m j = true then 1 else 0) + (if zlt u j m = true then 1 else 0) + (if zfe u j m = true then 1 else 0)) = k := by
        intro k
        induction k with
        | zero => intro _; rfl
        | succ k ihk =>
          intro hk
          rw [zsm_s, ihk (by omega)]
          have hne : ¬ k = m := by omega
          have h2 : zlt u m k = true → zlt u k m = true → False := fun c1 c2 => by
            have := h.2.2.2.2 m k m c1 c2
            rw [h.2.2.2.1 m] at this
            cases this
          unfold zfe
          cases c1 : zlt u m k <;> cases c2 : zlt u k m <;> simp_all
      exact this m (Nat.le_refl _)
    rw [e1, e2, Nat.add_sub_cancel]
    have e4 : (m + 1) * m = m * (m - 1) + 2 * m := by
      rcases m with _ | m
      · rfl
      · rw [Nat.add_sub_cancel, Nat.mul_comm (m + 1) m, ← Nat.add_mul]
    omega
theorem zfreeT {n : Nat} {u : Nat → Nat} (h : zPo n u) : nI (n * (n - 1) / 2) - nI (ztw n u) = nI (zFF u n) := by
  have := zTF h n
  rw [ztw_eq h, pk_sub (by omega)]
  congr 1
  omega
section ZLk
variable {X : zX} {I A : zF2} {t : zW} {s n R : Nat} {u : Nat → Nat} {h : Nat → Nat → Nat}
/-- what look answers -/
def zlk (n : Nat) (u : Nat → Nat) (R k : Nat) : Nat := match k with
  | 0 => n
  | 1 => ztw n u
  | 2 => zcs n u
  | 3 => zhe n u
  | 4 => zpc (zwi n u)
  | 5 => zFF u n
  | 6 => ziC n u (2 ^ n)
  | 7 => (zhg n u n).2
  | _ => R
theorem znlt9 {k : Nat} (hk : k < 9) (h : ¬ ((0 : Int32) ≤ nI k ∧ nI k < 8)) : k = 8 := by
  rcases Nat.lt_or_ge k 8 with q | q
  · refine absurd ⟨nI_pos' (by omega), ?_⟩ h
    show nI k < nI 8
    rw [zb_lt (by omega) (by decide)]
    exact q
  · omega
theorem zcase {k c : Nat} (hk : k < 2 ^ 31) (hc : c < 2 ^ 31) (e : nI k = nI c) : k = c := (nI_eq hk hc).mp e
theorem m_lookS (H : zMR A s n u R h) (hn : 0 < n) {k : Nat} (hk : k < 9) : zRd X 14 MX12_look [.ref 98, .int (nI s), .int (nI k)] (zWd I A t) (nI (zlk n u R k)) := by
  have h8 := H.2.1.1
  have h28 := z28 h8
  have hp := Nat.one_le_two_pow (n := n)
  refine eX12_look _ _ _ (bX12_look_0 _ _ _ (zvRd ob_98 (m_isOrderS H) (by decide) ?_))
  rw [zB_ifP, if_pos hn]
  refine zcRd (m_inC (m := 8) _ (by decide) (by decide)) (by decide) ?_
  rw [zB_if, if_pos (zin_y (by omega))]
  have last : ∀ j, j ≤ 2 ^ n → zRn X 14 0 0 MX12_look 121 [some (.ref 98), some (.int (nI s)), some (.int (nI k)), some (.int (nI (zcs n u))), some (.int (nI (zFF u n))), some (.int (nI (ziC n u j))), some (.int (nI j)), none] [] (zWd I A t) (fun v w1 => v = some (.int (nI (zlk n u R k))) ∧ w1 = zWd I A t) := by
    refine zdown ?_ ?_
    · refine bX12_look_121 _ _ _ _ _ _ _ (zvRd ob_98 (m_many H) (by decide) ?_)
      rw [zb_1 n (by omega), if_pos (Int32.le_refl _)]
      refine ⟨fun e => ?_, fun e => ?_, fun e => ?_, fun e => ?_, fun e => ?_, fun e => ?_, fun e => ?_, fun e => ?_, fun e => ?_⟩
      · have := zcase (by omega) (by decide) (show nI k = nI 0 from e)
        subst this
        exact zvRd ob_98 (m_many H) (by decide) ⟨rfl, rfl⟩
      · have := zcase (by omega) (by decide) (show nI k = nI 1 from e)
        subst this
        exact zvRd ob_98 (m_belowMany H) (by decide) ⟨rfl, rfl⟩
      · have := zcase (by omega) (by decide) (show nI k = nI 2 from e)
        subst this
        exact ⟨rfl, rfl⟩
      · have := zcase (by omega) (by decide) (show nI k = nI 3 from e)
        subst this
        exact zvRd ob_98 (m_height H) (by decide) ⟨rfl, rfl⟩
      · have := zcase (by omega) (by decide) (show nI k = nI 4 from e)
        subst this
        have hw := zwi_lt n u
        exact zvRd ob_98 (m_antiOf H) (by decide) (zcRd (m_ones (by omega)) (by decide) ⟨rfl, rfl⟩)
      · have := zcase (by omega) (by decide) (show nI k = nI 5 from e)
        subst this
        exact ⟨rfl, rfl⟩
      · have := zcase (by omega) (by decide) (show nI k = nI 6 from e)
        subst this
        exact ⟨rfl, rfl⟩
      · have := zcase (by omega) (by decide) (show nI k = nI 7 from e)
        subst this
        exact zvRd ob_98 (m_hangs H) (by decide) ⟨rfl, rfl⟩
      · have := znlt9 hk e
        subst this
        exact zvRd ob_98 (m_rows H) (by decide) ⟨rfl, rfl⟩
    · intro j hj ih
      refine bX12_look_121 _ _ _ _ _ _ _ (zvRd ob_98 (m_many H) (by decide) ?_)
      rw [zb_1 n (by omega), zi_le (by omega) (by omega), if_neg (by omega)]
      refine zvRd ob_98 (m_isIdeal H (by omega)) (by decide) ?_
      have e : ziC n u (j + 1) = if zid n u j = true then ziC n u j + 1 else ziC n u j := rfl
      rw [e] at ih
      rw [zB_if]
      by_cases hc : zid n u j = true
      · rw [if_pos hc]
        rw [if_pos hc] at ih
        refine bX12_look_150 _ _ _ _ _ _ _ _ ?_
        rw [nI_1, nI_1]
        exact ih
      · rw [if_neg hc]
        rw [if_neg hc] at ih
        refine bX12_look_150 _ _ _ _ _ _ _ _ ?_
        show zRn X 14 0 0 _ _ [_, _, _, _, _, some (.int (nI _ + nI 0)), _, _] _ _ _
        rw [nI_add, Nat.add_zero, nI_1]
        exact ih
  have l0 := last 0 (Nat.zero_le _)
  rw [zcs_eq H.2.1] at l0
  refine zdown (P := fun b => zRn X 14 0 0 MX12_look 34 [some (.ref 98), some (.int (nI s)), some (.int (nI k)), some (.int (nI (zsm b (fun b => zsm n (fun a => if zcv n u a b = true then 1 else 0))))), some (.int (nI (zFF u b))), some (.int 0), some (.int (nI b)), none] [] (zWd I A t) _) (n := n) ?_ (fun b hb ih => ?_) 0 (Nat.zero_le _)
  · refine bX12_look_34 _ _ _ _ _ _ _ (zvRd ob_98 (m_many H) (by decide) ?_)
    rw [if_pos (Int32.le_refl _)]
    exact l0
  · refine bX12_look_34 _ _ _ _ _ _ _ (zvRd ob_98 (m_many H) (by decide) ?_)
    rw [zi_le (by omega) (by omega), if_neg (by omega)]
    rw [zsm_s] at ih
    have e2 : zFF u (b + 1) = zFF u b + zsm b (fun a => if zfe u a b = true then 1 else 0) := rfl
    rw [e2] at ih
    generalize zsm b (fun b => zsm n (fun a => if zcv n u a b = true then 1 else 0)) = C at *
    generalize zFF u b = F at *
    have inner : ∀ a, a ≤ n → zRn X 14 0 0 MX12_look 47 [some (.ref 98), some (.int (nI s)), some (.int (nI k)), some (.int (nI (C + zsm a (fun a => if zcv n u a b = true then 1 else 0)))), some (.int (nI (F + zsm (min a b) (fun a => if zfe u a b = true then 1 else 0)))), some (.int 0), some (.int (nI b)), some (.int (nI a))] [] (zWd I A t) (fun v w1 => v = some (.int (nI (zlk n u R k))) ∧ w1 = zWd I A t) := by
      refine zdown ?_ ?_
      · refine bX12_look_47 _ _ _ _ _ _ _ _ (zvRd ob_98 (m_many H) (by decide) ?_)
        rw [if_pos (Int32.le_refl _), nI_1, show min n b = b by omega]
        exact ih
      · intro a ha iha
        refine bX12_look_47 _ _ _ _ _ _ _ _ (zvRd ob_98 (m_many H) (by decide) ?_)
        rw [zi_le (by omega) (by omega), if_neg (by omega)]
        refine zvRd ob_98 (m_isCover H (by omega) (by omega)) (by decide) ?_
        rw [zsm_s, ← Nat.add_assoc] at iha
        generalize C + zsm a (fun a => if zcv n u a b = true then 1 else 0) = C1 at *
        have go : ∀ x : Nat, x = (if zcv n u a b = true then 1 else 0) → zRn X 14 0 0 MX12_look 75 [some (.ref 98), some (.int (nI s)), some (.int (nI k)), none, some (.int (nI (F + zsm (min a b) (fun a => if zfe u a b = true then 1 else 0)))), some (.int 0), some (.int (nI b)), some (.int (nI a))] [.int (nI x), .int (nI C1)] (zWd I A t) (fun v w1 => v = some (.int (nI (zlk n u R k))) ∧ w1 = zWd I A t) := by
          intro x hx
          rw [← hx] at iha
          refine bX12_look_75 _ _ _ _ _ _ _ _ _ ?_
          rw [zi_le (by omega) (by omega), nI_add]
          by_cases hab : b ≤ a
          · rw [if_pos hab]
            refine bX12_look_102 _ _ _ _ _ _ _ _ (bX12_look_103 _ _ _ _ _ _ _ _ _ ?_)
            show zRn X 14 0 0 _ _ [_, _, _, _, some (.int (nI _ + nI 0)), _, _, _] _ _ _
            rw [nI_add, Nat.add_zero, nI_1]
            rw [show min (a + 1) b = min a b by omega] at iha
            exact iha
          · rw [if_neg hab]
            refine zvRd ob_98 (m_areFree H (by omega) (by omega)) (by decide) ?_
            rw [show min (a + 1) b = a + 1 by omega, zsm_s] at iha
            rw [zB_if, show min a b = a by omega]
            by_cases hf : zfe u a b = true
            · rw [if_pos hf]
              rw [if_pos hf, ← Nat.add_assoc] at iha
              refine bX12_look_103 _ _ _ _ _ _ _ _ _ ?_
              rw [nI_1, nI_1]
              exact iha
            · rw [if_neg hf]
              rw [if_neg hf, Nat.add_zero] at iha
              refine bX12_look_102 _ _ _ _ _ _ _ _ (bX12_look_103 _ _ _ _ _ _ _ _ _ ?_)
              show zRn X 14 0 0 _ _ [_, _, _, _, some (.int (nI _ + nI 0)), _, _, _] _ _ _
              rw [nI_add, Nat.add_zero, nI_1]
              exact iha
        rw [zB_if]
        by_cases hc : zcv n u a b = true
        · rw [if_pos hc]
          exact go 1 (by rw [if_pos hc])
        · rw [if_neg hc]
          exact go 0 (by rw [if_neg hc])
    have i0 := inner 0 (Nat.zero_le _)
    rw [zsm_z, Nat.zero_min, zsm_z, Nat.add_zero, Nat.add_zero] at i0
    exact i0
/-- what of answers -/
def zofk (n : Nat) (u : Nat → Nat) (a k : Nat) : Nat := match k with
  | 0 => u a
  | 1 => zov n u a
  | 2 => zfr n u a
  | 3 => zcb n u a
  | _ => zco n u a
theorem zmk_s (p : Nat → Bool) (n : Nat) : zmk (n + 1) p = zmk n p ||| (if p n = true then 2 ^ n else 0) := rfl
theorem zfr_mk {n : Nat} {u : Nat → Nat} {a : Nat} : zfr n u a = zmk n (fun b => zfe u a b) := zmk_cong (fun b _ => by
  unfold zfe
  rw [show decide (a = b) = decide (b = a) by simp [eq_comm]])
theorem m_ofS (H : zMR A s n u R h) (hn : 0 < n) {a k : Nat} (ha : a < n) (hk : k < 5) : zRd X 5 MX12_of_ [.ref 98, .int (nI s), .int (nI a), .int (nI k)] (zWd I A t) (nI (zofk n u a k)) := by
  have h8 := H.2.1.1
  have h28 := z28 h8
  have hth := m_isThingS (X := X) (I := I) (t := t) H (nI a)
  rw [zin_d] at hth
  refine eX12_of_ _ _ _ _ (bX12_of__0 _ _ _ _ (zvRd ob_98 hth (by decide) ?_))
  rw [zB_if, if_pos (zin_y ha)]
  refine zcRd (m_inC (m := 4) _ (by decide) (by decide)) (by decide) ?_
  rw [zB_if, if_pos (zin_y (by omega))]
  refine zdown (P := fun b => zRn X 5 0 0 MX12_of_ 36 [some (.ref 98), some (.int (nI s)), some (.int (nI a)), some (.int (nI k)), some (.int (nI (zmk b (fun b => zfe u a b)))), some (.int (nI (zmk b (fun b => zcv n u b a)))), some (.int (nI (zmk b (fun b => zcv n u a b)))), some (.int (nI b))] [] (zWd I A t) _) (n := n) ?_ (fun b hb ih => ?_) 0 (Nat.zero_le _)
  · refine bX12_of__36 _ _ _ _ _ _ _ _ (zvRd ob_98 (m_many H) (by decide) ?_)
    rw [if_pos (Int32.le_refl _)]
    refine ⟨fun e => ?_, fun e => ?_, fun e => ?_, fun e => ?_, fun e => ?_⟩
    · have := zcase (by omega) (by decide) (show nI k = nI 0 from e)
      subst this
      exact zvRd ob_98 (m_under H (by omega)) (by decide) ⟨rfl, rfl⟩
    · have := zcase (by omega) (by decide) (show nI k = nI 1 from e)
      subst this
      exact zvRd ob_98 (m_over H (by omega)) (by decide) ⟨rfl, rfl⟩
    · have := zcase (by omega) (by decide) (show nI k = nI 2 from e)
      subst this
      exact ⟨by rw [← zfr_mk]; rfl, rfl⟩
    · have := zcase (by omega) (by decide) (show nI k = nI 3 from e)
      subst this
      exact ⟨rfl, rfl⟩
    · have : k = 4 := by
        rcases Nat.lt_or_ge k 4 with q | q
        · refine absurd ⟨nI_pos' (by omega), ?_⟩ e
          show nI k < nI 4
          rw [zb_lt (by omega) (by decide)]
          exact q
        · omega
      subst this
      exact ⟨rfl, rfl⟩
  · refine bX12_of__36 _ _ _ _ _ _ _ _ (zvRd ob_98 (m_many H) (by decide) ?_)
    rw [zi_le (by omega) (by omega), if_neg (by omega)]
    rw [zmk_s, zmk_s, zmk_s] at ih
    generalize zmk b (fun b => zfe u a b) = F at *
    generalize zmk b (fun b => zcv n u b a) = C at *
    generalize zmk b (fun b => zcv n u a b) = D at *
    have p3 : ∀ x : Nat, x = (if zcv n u a b = true then 2 ^ b else 0) → ∀ f c, f = F ||| (if zfe u a b = true then 2 ^ b else 0) → c = C ||| (if zcv n u b a = true then 2 ^ b else 0) → zRn X 5 0 0 MX12_of_ 115 [some (.ref 98), some (.int (nI s)), some (.int (nI a)), some (.int (nI k)), some (.int (nI f)), some (.int (nI c)), none, some (.int (nI b))] [.int (nI x), .int (nI D)] (zWd I A t) (fun v w1 => v = some (.int (nI (zofk n u a k))) ∧ w1 = zWd I A t) := by
      intro x hx f c hf hc
      refine bX12_of__115 _ _ _ _ _ _ _ _ _ ?_
      rw [zb_or, nI_1, hx, hf, hc]
      exact ih
    have p2 : ∀ x : Nat, x = (if zcv n u b a = true then 2 ^ b else 0) → ∀ f, f = F ||| (if zfe u a b = true then 2 ^ b else 0) → zRn X 5 0 0 MX12_of_ 91 [some (.ref 98), some (.int (nI s)), some (.int (nI a)), some (.int (nI k)), some (.int (nI f)), none, some (.int (nI D)), some (.int (nI b))] [.int (nI x), .int (nI C)] (zWd I A t) (fun v w1 => v = some (.int (nI (zofk n u a k))) ∧ w1 = zWd I A t) := by
      intro x hx f hf
      refine bX12_of__91 _ _ _ _ _ _ _ _ _ (zvRd ob_98 (m_isCover H (by omega) (by omega)) (by decide) ?_)
      rw [zB_if, zb_or]
      by_cases hc : zcv n u a b = true
      · rw [if_pos hc, zb_1 b (by omega)]
        exact p3 _ (by rw [if_pos hc]) _ _ hf (by rw [hx])
      · rw [if_neg hc]
        exact p3 0 (by rw [if_neg hc]) _ _ hf (by rw [hx])
    have p1 : ∀ x : Nat, x = (if zfe u a b = true then 2 ^ b else 0) → zRn X 5 0 0 MX12_of_ 67 [some (.ref 98), some (.int (nI s)), some (.int (nI a)), some (.int (nI k)), none, some (.int (nI C)), some (.int (nI D)), some (.int (nI b))] [.int (nI x), .int (nI F)] (zWd I A t) (fun v w1 => v = some (.int (nI (zofk n u a k))) ∧ w1 = zWd I A t) := by
      intro x hx
      refine bX12_of__67 _ _ _ _ _ _ _ _ _ (zvRd ob_98 (m_isCover H (by omega) (by omega)) (by decide) ?_)
      rw [zB_if, zb_or]
      by_cases hc : zcv n u b a = true
      · rw [if_pos hc, zb_1 b (by omega)]
        exact p2 _ (by rw [if_pos hc]) _ (by rw [hx])
      · rw [if_neg hc]
        exact p2 0 (by rw [if_neg hc]) _ (by rw [hx])
    refine zvRd ob_98 (m_areFree H (by omega) (by omega)) (by decide) ?_
    rw [zB_if]
    by_cases hc : zfe u a b = true
    · rw [if_pos hc, zb_1 b (by omega)]
      exact p1 _ (by rw [if_pos hc])
    · rw [if_neg hc]
      exact p1 0 (by rw [if_neg hc])
/-- what is answers -/
def zisk (n : Nat) (u : Nat → Nat) (k : Nat) : Bool := match k with
  | 0 => decide (zFF u n = 0)
  | 1 => decide (ztw n u = 0)
  | 2 => !zex4 n (zkN u)
  | 3 => !zex4 n (zk2 u)
  | 4 => !zex4 n (zk2 u) && !zex4 n (zk3 u)
  | 5 => zla n u
  | _ => zlv n u
theorem zFF_31 {u : Nat → Nat} (hn : n ≤ 8) : zFF u n ≤ 64 := by
  have : zFF u n ≤ n * 8 := zsm_bd (fun b hb => by
    have : zsm b (fun a => if zfe u a b = true then 1 else 0) ≤ b * 1 := zsm_bd (fun a _ => by
      show (if zfe u a b = true then 1 else 0) ≤ 1
      split <;> omega)
    omega)
  have : n * 8 ≤ 8 * 8 := Nat.mul_le_mul_right _ hn
  omega
theorem ztw_31 {u : Nat → Nat} (hn : n ≤ 8) : ztw n u ≤ 64 := by
  have : zsm n (fun b => zpc (u b)) ≤ n * 8 := zsm_bd (fun b _ => zpc8 _)
  have h2 : n * 8 ≤ 8 * 8 := Nat.mul_le_mul_right _ hn
  have h3 : ztw n u = zsm n (fun b => zpc (u b)) := rfl
  omega
theorem zB1 {α : Sort _} (c : Bool) (a b : α) : (if zB c = 0 then a else b) = if c = true then b else a := zB_if c a b
theorem m_isSoS (H : zMR A s n u R h) (hn : 0 < n) {k : Nat} (hk : k < 7) : zRd X 15 MX12_isSo [.ref 98, .int (nI s), .int (nI k)] (zWd I A t) (zB (zisk n u k)) := by
  have h8 := H.2.1.1
  have f31 := zFF_31 (u := u) h8
  have t31 := ztw_31 (u := u) h8
  refine eX12_isSo _ _ _ (bX12_isSo_0 _ _ _ ⟨fun e => ?_, fun e => ?_, fun e => ?_, fun e => ?_, fun e => ?_, fun e => ?_, fun e => ?_⟩)
  · have := zcase (by omega) (by decide) (show nI k = nI 0 from e)
    subst this
    refine zvRd ob_98 (m_lookS H hn (k := 5) (by decide)) (by decide) ?_
    show if nI (zFF u n) = 0 then _ else _
    rw [zi_0 (by omega)]
    by_cases c : zFF u n = 0
    · rw [if_pos c]
      exact ⟨by unfold zisk; rw [decide_eq_true c]; rfl, rfl⟩
    · rw [if_neg c]
      exact ⟨by unfold zisk; rw [decide_eq_false c]; rfl, rfl⟩
  · have := zcase (by omega) (by decide) (show nI k = nI 1 from e)
    subst this
    refine zvRd ob_98 (m_belowMany H) (by decide) ?_
    rw [zi_0 (by omega)]
    by_cases c : ztw n u = 0
    · rw [if_pos c]
      exact ⟨by unfold zisk; rw [decide_eq_true c]; rfl, rfl⟩
    · rw [if_neg c]
      exact ⟨by unfold zisk; rw [decide_eq_false c]; rfl, rfl⟩
  · have := zcase (by omega) (by decide) (show nI k = nI 2 from e)
    subst this
    exact zvRd ob_98 (m_isWithout H (k := 2) (by decide)) (by decide) ⟨zB_ok _, rfl, rfl⟩
  · have := zcase (by omega) (by decide) (show nI k = nI 3 from e)
    subst this
    exact zvRd ob_98 (m_isWithout H (k := 3) (by decide)) (by decide) ⟨zB_ok _, rfl, rfl⟩
  · have := zcase (by omega) (by decide) (show nI k = nI 4 from e)
    subst this
    refine zvRd ob_98 (m_isWithout H (k := 3) (by decide)) (by decide) ?_
    have e3 : zkd u 3 = zk2 u := rfl
    have e4 : zkd u 4 = zk3 u := rfl
    rw [e3, zB_if]
    unfold zisk
    by_cases c : (!zex4 n (zk2 u)) = true
    · rw [if_pos c]
      refine zvRd ob_98 (m_isWithout H (k := 4) (by decide)) (by decide) ?_
      rw [e4, zB_if, c, Bool.true_and]
      by_cases c2 : (!zex4 n (zk3 u)) = true
      · rw [if_pos c2, c2]
        exact ⟨rfl, rfl⟩
      · rw [if_neg c2]
        rw [Bool.not_eq_true] at c2
        rw [c2]
        exact ⟨rfl, rfl⟩
    · rw [if_neg c]
      rw [Bool.not_eq_true] at c
      rw [c]
      exact ⟨rfl, rfl⟩
  · have := zcase (by omega) (by decide) (show nI k = nI 5 from e)
    subst this
    exact zvRd ob_98 (m_isLattice H) (by decide) ⟨zB_ok _, rfl, rfl⟩
  · have : k = 6 := by
      rcases Nat.lt_or_ge k 6 with q | q
      · refine absurd ⟨nI_pos' (by omega), ?_⟩ e
        show nI k < nI 6
        rw [zb_lt (by omega) (by decide)]
        exact q
      · omega
    subst this
    exact zvRd ob_98 (m_isLevelled H) (by decide) ⟨zB_ok _, rfl, rfl⟩
end ZLk
