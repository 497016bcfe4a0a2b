/-! ===== critical twos ===== -/
def zcr (n : Nat) (u : Nat → Nat) (a b : Nat) : Bool := zfe u a b && decide (zdf (u a) (u b) = 0) && decide (zdf (zov n u b) (zov n u a) = 0)
def zcrR (n : Nat) (u : Nat → Nat) (a : Nat) : Nat → List (Nat × Nat)
  | 0 => []
  | b + 1 => zcrR n u a b ++ (if zcr n u a b = true then [(a, b)] else [])
def zcrL (n : Nat) (u : Nat → Nat) : Nat → List (Nat × Nat)
  | 0 => []
  | a + 1 => zcrL n u a ++ zcrR n u a n
theorem zcrR_s (n : Nat) (u : Nat → Nat) (a b : Nat) : zcrR n u a (b + 1) = zcrR n u a b ++ (if zcr n u a b = true then [(a, b)] else []) := rfl
theorem zcrL_s (n : Nat) (u : Nat → Nat) (a : Nat) : zcrL n u (a + 1) = zcrL n u a ++ zcrR n u a n := rfl
/-- all critical twos -/
def zCT (n : Nat) (u : Nat → Nat) : List (Nat × Nat) := zcrL n u n
theorem zcr_ne {n : Nat} {u : Nat → Nat} {a b : Nat} (h : zcr n u a b = true) : a ≠ b := fun e => by
  unfold zcr zfe at h
  simp [e] at h
theorem zcrR_len (n : Nat) (u : Nat → Nat) (a : Nat) : ∀ b, (zcrR n u a b).length ≤ (if a < b then b - 1 else b)
  | 0 => Nat.zero_le _
  | b + 1 => by
    have ih := zcrR_len n u a b
    rw [zcrR_s, List.length_append]
    by_cases h : zcr n u a b = true
    · have := zcr_ne h
      rw [if_pos h]
      simp only [List.length_cons, List.length_nil]
      split at ih <;> split <;> omega
    · rw [if_neg h]
      simp only [List.length_nil]
      split at ih <;> split <;> omega
theorem zcrR_mono (n : Nat) (u : Nat → Nat) (a b : Nat) : ∀ j, (zcrR n u a b).length ≤ (zcrR n u a (b + j)).length
  | 0 => Nat.le_refl _
  | j + 1 => by
    have ih := zcrR_mono n u a b j
    rw [← Nat.add_assoc, zcrR_s, List.length_append]
    omega
theorem zcrL_len (n : Nat) (u : Nat → Nat) : ∀ a, a ≤ n → (zcrL n u a).length ≤ a * (n - 1)
  | 0, _ => Nat.zero_le _
  | a + 1, ha => by
    have ih := zcrL_len n u a (by omega)
    have h1 := zcrR_len n u a n
    rw [if_pos (by omega)] at h1
    rw [zcrL_s, List.length_append, Nat.succ_mul]
    omega
theorem zcr_56 {n : Nat} {u : Nat → Nat} (hn : n ≤ 8) {a b : Nat} (ha : a < n) (hb : b < n) (h : zcr n u a b = true) : (zcrL n u a ++ zcrR n u a b).length < 56 := by
  have h1 := zcrL_len n u a (by omega)
  have h2 := zcrR_len n u a n
  rw [if_pos ha] at h2
  have h3 := zcrR_mono n u a (b + 1) (n - (b + 1))
  rw [show b + 1 + (n - (b + 1)) = n by omega, zcrR_s, if_pos h, List.length_append] at h3
  simp only [List.length_cons, List.length_nil] at h3
  rw [List.length_append]
  have h4 : a * (n - 1) + (n - 1) ≤ 8 * 7 := by
    rw [← Nat.succ_mul]
    exact Nat.mul_le_mul (by omega) (by omega)
  omega
theorem zCT_56 {n : Nat} {u : Nat → Nat} (hn : n ≤ 8) : (zCT n u).length ≤ 56 := by
  have h1 := zcrL_len n u n (Nat.le_refl _)
  have h2 : n * (n - 1) ≤ 8 * 7 := Nat.mul_le_mul hn (by omega)
  unfold zCT
  omega
theorem zcrR_mem {n : Nat} {u : Nat → Nat} {a : Nat} {q : Nat × Nat} : ∀ b, q ∈ zcrR n u a b → q.1 = a ∧ q.2 < b ∧ zcr n u q.1 q.2 = true
  | 0, h => by cases h
  | b + 1, h => by
    rw [zcrR_s, List.mem_append] at h
    rcases h with h | h
    · obtain ⟨h1, h2, h3⟩ := zcrR_mem b h
      exact ⟨h1, by omega, h3⟩
    · by_cases c : zcr n u a b = true
      · rw [if_pos c] at h
        simp at h
        subst h
        exact ⟨rfl, Nat.lt_succ_self _, c⟩
      · rw [if_neg c] at h
        cases h
theorem zcrL_mem {n : Nat} {u : Nat → Nat} {q : Nat × Nat} : ∀ a, q ∈ zcrL n u a → q.1 < a ∧ q.2 < n ∧ zcr n u q.1 q.2 = true
  | 0, h => by cases h
  | a + 1, h => by
    rw [zcrL_s, List.mem_append] at h
    rcases h with h | h
    · obtain ⟨h1, h2, h3⟩ := zcrL_mem a h
      exact ⟨by omega, h2, h3⟩
    · obtain ⟨h1, h2, h3⟩ := zcrR_mem n h
      exact ⟨by omega, h2, h3⟩
theorem zCT_mem {n : Nat} {u : Nat → Nat} {q : Nat × Nat} (h : q ∈ zCT n u) : q.1 < n ∧ q.2 < n ∧ zcr n u q.1 q.2 = true := zcrL_mem n h
/-- two arrays that hold twos -/
def zTw (F G : Nat → Int32) (L : List (Nat × Nat)) : Prop := ∀ k a b, L[k]? = some (a, b) → F k = nI a ∧ G k = nI b
theorem zTw_0 (F G : Nat → Int32) : zTw F G [] := fun k a b h => by simp at h
theorem zTw_app {F G : Nat → Int32} {L : List (Nat × Nat)} (h : zTw F G L) (a b : Nat) : zTw (upd F L.length (nI a)) (upd G L.length (nI b)) (L ++ [(a, b)]) := fun k c d hk => by
  rw [List.getElem?_append] at hk
  split at hk
  · rename_i hl
    rw [upd_ne _ _ (by omega), upd_ne _ _ (by omega)]
    exact h k c d hk
  · rename_i hl
    have e : k = L.length := by
      rcases Nat.lt_or_ge L.length k with q | q
      · rw [List.getElem?_eq_none (by simp; omega)] at hk
        cases hk
      · omega
    subst e
    rw [Nat.sub_self] at hk
    cases hk
    exact ⟨upd_eq _ _ _, upd_eq _ _ _⟩
theorem zlget {L : List (Nat × Nat)} {k : Nat} (hk : k < L.length) : ∃ a b, L[k]? = some (a, b) ∧ (a, b) ∈ L := ⟨L[k].1, L[k].2, List.getElem?_eq_getElem hk, List.getElem_mem hk⟩
theorem zOR.upI {I A : zF2} {q n : Nat} {u : Nat → Nat} (h : zOR I A q n u) {p : Nat} {f : Nat → Int32} (hp : 75 ≤ p) : zOR (va_up I p f) A q n u := by
  have := h.1.lt
  have hq : q < 75 := by
    rcases h.1 with ⟨s, hs, rfl⟩ | ⟨s, hs, rfl⟩ <;> omega
  obtain ⟨h1, h2, h3, h4, h5⟩ := h
  exact ⟨h1, h2, by rw [zup_ne (by omega)]; exact h3, h4, h5⟩
abbrev zIg (I : zF2) (c : Int32) : zF2 := va_up I 89 (upd (I 89) 6 c)
abbrev zTA (A : zF2) (F G : Nat → Int32) : zF2 := va_up (va_up A 90 F) 91 G
theorem upd_uu (f : Nat → Int32) (k : Nat) (x y : Int32) : upd (upd f k x) k y = upd f k y := by
  funext j
  unfold upd
  split <;> rfl
theorem zIg_e (I : zF2) (c : Int32) : zIg I c 89 6 = c := by unfold zIg; rw [zup_eq, upd_eq]
theorem zIg_s (I : zF2) (c c' : Int32) : va_up (zIg I c) 89 (upd (zIg I c 89) 6 c') = zIg I c' := by
  unfold zIg
  rw [zup_eq, bx_uu, upd_uu]
theorem zTA_90 (A : zF2) (F G : Nat → Int32) : zTA A F G 90 = F := by unfold zTA; rw [zup_ne (by decide), zup_eq]
theorem zTA_91 (A : zF2) (F G : Nat → Int32) : zTA A F G 91 = G := zup_eq
theorem zTA_s90 (A : zF2) (F G F' : Nat → Int32) : va_up (zTA A F G) 90 F' = zTA A F' G := by unfold zTA; rw [zup_comm _ (by decide), bx_uu]
theorem zTA_s91 (A : zF2) (F G G' : Nat → Int32) : va_up (zTA A F G) 91 G' = zTA A F G' := by unfold zTA; rw [bx_uu]
theorem zTA_id (A : zF2) : zTA A (A 90) (A 91) = A := by
  have e : A 91 = va_up A 90 (A 90) 91 := by rw [zup_self]
  unfold zTA
  rw [zup_self, zup_self]
theorem zTA_or {I A : zF2} {q n : Nat} {u : Nat → Nat} (h : zOR I A q n u) (c : Int32) (F G : Nat → Int32) : zOR (zIg I c) (zTA A F G) q n u := ((h.up (p := 90) (by decide)).up (p := 91) (by decide)).upI (p := 89) (by decide)
section ZCr
variable {X : zX} {I A : zF2} {t : zW} {q n : Nat} {u : Nat → Nat}
theorem v_isCritical (h : zOR I A q n u) {a b : Nat} (ha : a < n) (hb : b < n) : zRd X 2 MX9_isCritical [.ref q, .int (nI a), .int (nI b)] (zWd I A t) (zB (zcr n u a b)) := by
  have h8 := h.n8
  have h28 := z28 h8
  have l1 := zfr_lt n u a
  have l2 : zdf (u a) (u b) < 2 ^ 8 := zdf_lt (h.2.1.u31 a)
  have l3 : zdf (zov n u b) (zov n u a) < 2 ^ n := zdf_lt (zov_lt n u b)
  refine eX9_isCritical _ _ _ (bX9_isCritical_0 _ _ _ (zvRd h.1.ob (v_freeOf h ha) (by decide) ?_))
  rw [zi_has (by omega) (by omega), zfr_fe h.2.1 ha hb]
  unfold zcr
  by_cases c1 : zfe u a b = true
  · rw [if_pos c1]
    refine zvRd h.1.ob (v_belowOf h (by omega)) (by decide) (zvRd h.1.ob (v_belowOf h (by omega)) (by decide) ?_)
    rw [zb_df, zi_0 (by omega)]
    by_cases c2 : zdf (u a) (u b) = 0
    · rw [if_pos c2]
      refine zvRd h.1.ob (v_aboveOf h (by omega)) (by decide) (zvRd h.1.ob (v_aboveOf h (by omega)) (by decide) ?_)
      rw [zb_df, zi_0 (by omega)]
      by_cases c3 : zdf (zov n u b) (zov n u a) = 0
      · rw [if_pos c3]
        exact ⟨by simp [c1, c2, c3, zB], rfl⟩
      · rw [if_neg c3]
        exact ⟨by simp [c3, zB], rfl⟩
    · rw [if_neg c2]
      exact ⟨by simp [c2, zB], rfl⟩
  · rw [if_neg c1]
    exact ⟨by simp [c1, zB], rfl⟩
theorem v_collect (h : zOR I A q n u) : zEv X 3 0 0 MX9_collect [.ref 89, .ref q] (zWd I A t) (fun v w1 => v = none ∧ ∃ F G, w1 = zWd (zIg I (nI (zCT n u).length)) (zTA A F G) t ∧ zTw F G (zCT n u)) := by
  have h8 := h.n8
  refine eX9_collect _ _ (bX9_collect_0 _ _ ⟨_, fi_89_6.wr, ?_⟩)
  have key : ∀ a, a ≤ n → ∀ F G : Nat → Int32, zTw F G (zcrL n u a) → zRn X 3 0 0 MX9_collect 7 [some (.ref 89), some (.ref q), some (.int (nI a)), none] [] (zWd (zIg I (nI (zcrL n u a).length)) (zTA A F G) t) (fun v w1 => v = none ∧ ∃ F G, w1 = zWd (zIg I (nI (zCT n u).length)) (zTA A F G) t ∧ zTw F G (zCT n u)) := by
    refine zdown ?_ ?_
    · intro F G hT
      have h0 := zTA_or h (nI (zcrL n u n).length) F G
      refine bX9_collect_7 _ _ _ (zvRd h0.1.ob (v_size h0) (by decide) ?_)
      rw [if_pos (Int32.le_refl _)]
      exact ⟨rfl, F, G, rfl, hT⟩
    · intro a ha ih F G hT
      have h0 := zTA_or h (nI (zcrL n u a).length) F G
      refine bX9_collect_7 _ _ _ (zvRd h0.1.ob (v_size h0) (by decide) ?_)
      rw [zi_le (by omega) (by omega), if_neg (by omega)]
      have inner : ∀ b, b ≤ n → ∀ F G : Nat → Int32, zTw F G (zcrL n u a ++ zcrR n u a b) → zRn X 3 0 0 MX9_collect 17 [some (.ref 89), some (.ref q), some (.int (nI a)), some (.int (nI b))] [] (zWd (zIg I (nI (zcrL n u a ++ zcrR n u a b).length)) (zTA A F G) t) (fun v w1 => v = none ∧ ∃ F G, w1 = zWd (zIg I (nI (zCT n u).length)) (zTA A F G) t ∧ zTw F G (zCT n u)) := by
        refine zdown ?_ ?_
        · intro F G hT
          have h0 := zTA_or h (nI (zcrL n u a ++ zcrR n u a n).length) F G
          refine bX9_collect_17 _ _ _ _ (zvRd h0.1.ob (v_size h0) (by decide) ?_)
          rw [if_pos (Int32.le_refl _), nI_1]
          exact ih F G hT
        · intro b hb ihb F G hT
          have h0 := zTA_or h (nI (zcrL n u a ++ zcrR n u a b).length) F G
          have l56 := zcr_56 (u := u) h8 ha hb
          have ll := zcrL_len n u a (by omega)
          have lr := zcrR_len n u a b
          have ll2 : (zcrL n u a ++ zcrR n u a b).length ≤ 100 := by
            rw [List.length_append]
            have : a * (n - 1) ≤ 8 * 7 := Nat.mul_le_mul (by omega) (by omega)
            split at lr <;> omega
          rw [zcrR_s, ← List.append_assoc] at ihb
          generalize zcrL n u a ++ zcrR n u a b = L at *
          refine bX9_collect_17 _ _ _ _ (zvRd h0.1.ob (v_size h0) (by decide) ?_)
          rw [zi_le (by omega) (by omega), if_neg (by omega)]
          refine ⟨_, fi_89_6.rd, ?_⟩
          rw [zIg_e]
          have skip : zcr n u a b = false → zRn X 3 0 0 MX9_collect 73 [some (.ref 89), some (.ref q), some (.int (nI a)), some (.int (nI b))] [] (zWd (zIg I (nI L.length)) (zTA A F G) t) (fun v w1 => v = none ∧ ∃ F G, w1 = zWd (zIg I (nI (zCT n u).length)) (zTA A F G) t ∧ zTw F G (zCT n u)) := fun hc => by
            rw [hc, if_neg (by decide), List.append_nil] at ihb
            refine bX9_collect_73 _ _ _ _ ?_
            rw [nI_1]
            exact ihb F G hT
          show if nI 56 ≤ nI L.length then _ else _
          rw [zi_le (by omega) (by omega)]
          by_cases c0 : 56 ≤ L.length
          · rw [if_pos c0]
            refine skip ?_
            cases hc : zcr n u a b
            · rfl
            · have := l56 hc
              omega
          · rw [if_neg c0]
            refine zcRd (v_isCritical h0 ha hb) (by decide) ?_
            rw [zB_if]
            by_cases hc : zcr n u a b = true
            · rw [if_pos hc]
              rw [if_pos hc] at ihb
              refine ⟨_, fr_89_0.rd, _, fi_89_6.rd, ?_⟩
              rw [zIg_e]
              refine ⟨_, ar_90.wr (by omega), ?_⟩
              rw [zTA_90, zTA_s90]
              refine ⟨_, fr_89_1.rd, _, fi_89_6.rd, ?_⟩
              rw [zIg_e]
              refine ⟨_, ar_91.wr (by omega), ?_⟩
              rw [zTA_91, zTA_s91]
              refine ⟨_, fi_89_6.rd, ?_⟩
              rw [zIg_e]
              refine ⟨_, fi_89_6.wr, ?_⟩
              rw [zIg_s]
              refine bX9_collect_73 _ _ _ _ ?_
              have := ihb _ _ (zTw_app hT a b)
              rw [List.length_append] at this
              simp only [List.length_cons, List.length_nil] at this
              rw [nI_1, nI_1]
              exact this
            · rw [if_neg hc]
              exact skip (by simpa using hc)
      have i0 := inner 0 (Nat.zero_le _) F G (by
        show zTw F G (zcrL n u a ++ [])
        rw [List.append_nil]
        exact hT)
      have e : zcrL n u a ++ zcrR n u a 0 = zcrL n u a := List.append_nil _
      rw [e] at i0
      exact i0
  have k0 := key 0 (Nat.zero_le _) (A 90) (A 91) (zTw_0 _ _)
  rw [zTA_id] at k0
  exact k0
end ZCr
abbrev zMA (A : zF2) (F G : Nat → Int32) : zF2 := va_up (va_up A 108 F) 109 G
theorem zMA_108 (A : zF2) (F G : Nat → Int32) : zMA A F G 108 = F := by unfold zMA; rw [zup_ne (by decide), zup_eq]
theorem zMA_109 (A : zF2) (F G : Nat → Int32) : zMA A F G 109 = G := zup_eq
theorem zMA_s108 (A : zF2) (F G F' : Nat → Int32) : va_up (zMA A F G) 108 F' = zMA A F' G := by unfold zMA; rw [zup_comm _ (by decide), bx_uu]
theorem zMA_s109 (A : zF2) (F G G' : Nat → Int32) : va_up (zMA A F G) 109 G' = zMA A F G' := by unfold zMA; rw [bx_uu]
theorem zMA_id (A : zF2) : zMA A (A 108) (A 109) = A := by
  unfold zMA
  rw [zup_self, zup_self]
theorem zIf_s (I : zF2) (k : Nat) (c c' : Int32) : va_up (zIf I k c) 98 (upd (zIf I k c 98) k c') = zIf I k c' := by
  unfold zIf
  rw [zup_eq, bx_uu, upd_uu]
section ZCm
variable {X : zX} {I A : zF2} {t : zW} {s n R : Nat} {u : Nat → Nat} {h : Nat → Nat → Nat}
theorem zMA_H (H : zMR A s n u R h) (F G : Nat → Int32) : zMR (zMA A F G) s n u R h := (H.up (p := 108) (by decide)).up (p := 109) (by decide)
theorem m_laysTwos (H : zMR A s n u R h) : zEv X 4 0 0 MX12_laysTwos [.ref 98, .int (nI s)] (zWd I A t) (fun v w1 => v = none ∧ ∃ F G, w1 = zWd (zIf I 21 (nI (zCT n u).length)) (zMA A F G) t ∧ zTw F G (zCT n u)) := by
  have h8 := H.2.1.1
  have h28 := z28 h8
  refine eX12_laysTwos _ _ (bX12_laysTwos_0 _ _ ⟨_, fi_98_21.wr, ?_⟩)
  have key : ∀ a, a ≤ n → ∀ F G : Nat → Int32, zTw F G (zcrL n u a) → zRn X 4 0 0 MX12_laysTwos 7 [some (.ref 98), some (.int (nI s)), some (.int (nI a)), none] [] (zWd (zIf I 21 (nI (zcrL n u a).length)) (zMA A F G) t) (fun v w1 => v = none ∧ ∃ F G, w1 = zWd (zIf I 21 (nI (zCT n u).length)) (zMA A F G) t ∧ zTw F G (zCT n u)) := by
    refine zdown ?_ ?_
    · intro F G hT
      refine bX12_laysTwos_7 _ _ _ (zvRd ob_98 (m_many (zMA_H H F G)) (by decide) ?_)
      rw [if_pos (Int32.le_refl _)]
      exact ⟨rfl, F, G, rfl, hT⟩
    · intro a ha ih F G hT
      refine bX12_laysTwos_7 _ _ _ (zvRd ob_98 (m_many (zMA_H H F G)) (by decide) ?_)
      rw [zi_le (by omega) (by omega), if_neg (by omega)]
      have inner : ∀ b, b ≤ n → ∀ F G : Nat → Int32, zTw F G (zcrL n u a ++ zcrR n u a b) → zRn X 4 0 0 MX12_laysTwos 18 [some (.ref 98), some (.int (nI s)), some (.int (nI a)), some (.int (nI b))] [] (zWd (zIf I 21 (nI (zcrL n u a ++ zcrR n u a b).length)) (zMA A F G) t) (fun v w1 => v = none ∧ ∃ F G, w1 = zWd (zIf I 21 (nI (zCT n u).length)) (zMA A F G) t ∧ zTw F G (zCT n u)) := by
        refine zdown ?_ ?_
        · intro F G hT
          refine bX12_laysTwos_18 _ _ _ _ (zvRd ob_98 (m_many (zMA_H H F G)) (by decide) ?_)
          rw [if_pos (Int32.le_refl _), nI_1]
          exact ih F G hT
        · intro b hb ihb F G hT
          have H1 := zMA_H H F G
          have l56 := zcr_56 (u := u) h8 ha hb
          have l2 : zdf (u a) (u b) < 2 ^ 8 := zdf_lt (H.2.1.u31 a)
          have l3 : zdf (zov n u b) (zov n u a) < 2 ^ n := zdf_lt (zov_lt n u b)
          rw [zcrR_s, ← List.append_assoc] at ihb
          generalize zcrL n u a ++ zcrR n u a b = L at *
          refine bX12_laysTwos_18 _ _ _ _ (zvRd ob_98 (m_many H1) (by decide) ?_)
          rw [zi_le (by omega) (by omega), if_neg (by omega)]
          refine zvRd ob_98 (m_areFree H1 (by omega) (by omega)) (by decide) ?_
          have skip : zcr n u a b = false → zRn X 4 0 0 MX12_laysTwos 103 [some (.ref 98), some (.int (nI s)), some (.int (nI a)), some (.int (nI b))] [] (zWd (zIf I 21 (nI L.length)) (zMA A F G) t) (fun v w1 => v = none ∧ ∃ F G, w1 = zWd (zIf I 21 (nI (zCT n u).length)) (zMA A F G) t ∧ zTw F G (zCT n u)) := fun hc => by
            rw [hc, if_neg (by decide), List.append_nil] at ihb
            refine bX12_laysTwos_103 _ _ _ _ ?_
            rw [nI_1]
            exact ihb F G hT
          rw [zB_if]
          by_cases c1 : zfe u a b = true
          · rw [if_pos c1]
            refine zvRd ob_98 (m_under H1 (by omega)) (by decide) (zvRd ob_98 (m_under H1 (by omega)) (by decide) ?_)
            rw [zb_df, zi_0 (by omega)]
            by_cases c2 : zdf (u a) (u b) = 0
            · rw [if_pos c2]
              refine zvRd ob_98 (m_over H1 (by omega)) (by decide) (zvRd ob_98 (m_over H1 (by omega)) (by decide) ?_)
              rw [zb_df, zi_0 (by omega)]
              by_cases c3 : zdf (zov n u b) (zov n u a) = 0
              · have hc : zcr n u a b = true := by
                  unfold zcr
                  simp [c1, c2, c3]
                have := l56 hc
                rw [if_pos c3]
                rw [if_pos hc] at ihb
                refine ⟨_, fr_98_19.rd, _, fi_98_21.rd, ?_⟩
                rw [zIf_eq]
                refine ⟨_, ar_108.wr (by omega), ?_⟩
                rw [zMA_108, zMA_s108]
                refine ⟨_, fr_98_20.rd, _, fi_98_21.rd, ?_⟩
                rw [zIf_eq]
                refine ⟨_, ar_109.wr (by omega), ?_⟩
                rw [zMA_109, zMA_s109]
                refine ⟨_, fi_98_21.rd, ?_⟩
                rw [zIf_eq]
                refine ⟨_, fi_98_21.wr, ?_⟩
                rw [zIf_s]
                refine bX12_laysTwos_103 _ _ _ _ ?_
                have := ihb _ _ (zTw_app hT a b)
                rw [List.length_append] at this
                simp only [List.length_cons, List.length_nil] at this
                rw [nI_1, nI_1]
                exact this
              · rw [if_neg c3]
                exact skip (by unfold zcr; simp [c3])
            · rw [if_neg c2]
              exact skip (by unfold zcr; simp [c2])
          · rw [if_neg c1]
            exact skip (by unfold zcr; simp [c1])
      have i0 := inner 0 (Nat.zero_le _) F G (by
        show zTw F G (zcrL n u a ++ [])
        rw [List.append_nil]
        exact hT)
      have e : zcrL n u a ++ zcrR n u a 0 = zcrL n u a := List.append_nil _
      rw [e] at i0
      exact i0
  have k0 := key 0 (Nat.zero_le _) (A 108) (A 109) (zTw_0 _ _)
  rw [zMA_id] at k0
  exact k0
end ZCm
theorem zKp.vt (I A : zF2) (c : Int32) (F G : Nat → Int32) : zKp I A (zIg I c) (zTA A F G) := (((zKp.refl I A).a (p := 90) (by decide)).a (p := 91) (by decide)).f (p := 89) (by decide)
theorem zKp.mt (I A : zF2) (c : Int32) (F G : Nat → Int32) : zKp I A (zIf I 21 c) (zMA A F G) := (((zKp.refl I A).a (p := 108) (by decide)).a (p := 109) (by decide)).f (p := 98) (by decide)
/-- how many critical twos a row turns -/
def zrv (n : Nat) (f : Nat → Nat) (L : List (Nat × Nat)) (m : Nat) : Nat := zsm m (fun k => match L[k]? with
  | some (a, b) => if zpl n f b < zpl n f a then 1 else 0
  | none => 0)
theorem zrv_s {n : Nat} {f : Nat → Nat} {L : List (Nat × Nat)} {m a b : Nat} (h : L[m]? = some (a, b)) : zrv n f L (m + 1) = zrv n f L m + (if zpl n f b < zpl n f a then 1 else 0) := by
  unfold zrv
  rw [zsm_s, h]
section ZQc
variable {X : zX} {S : Nat → zSl} {x y z : Int32}
theorem q_critical : zSame X MX11_critical MX12_critical [.int x, .int y] S := by
  rcases zslot S x with ⟨s, hs⟩ | hn
  · by_cases hy : -1 ≤ y
    · by_cases hy1 : y = -1
      · refine ⟨nI (zCT (S s).1 (S s).2.1).length, fun I A t hC => zQy.mk 5 (by decide) ?_, fun I A t hM => zQy.mk 5 (by decide) ?_⟩
        · have h0 := hC s hs.1
          refine eX11_critical _ _ _ (bX11_critical_0 _ _ _ (zvO1 ob_0 (v_orderIn1 hC hs) (by decide) ?_))
          rw [if_pos hy]
          refine ⟨_, fr_0_9.rd, zvV ob_89 (v_collect h0.1) (by decide) ?_⟩
          rintro w1 ⟨F, G, rfl, hT⟩
          rw [if_pos hy1]
          have hz : zRd X 0 MX9_size [.ref 89] (zWd (zIg I (nI (zCT (S s).1 (S s).2.1).length)) (zTA A F G) t) (nI (zCT (S s).1 (S s).2.1).length) := eX9_size _ (bX9_size_0 _ ⟨_, fi_89_6.rd, by rw [zIg_e], rfl⟩)
          exact ⟨_, fr_0_9.rd, zvRd ob_89 hz (by decide) (zQk.of (zKp.vt I A _ F G))⟩
        · have h1 := m_ord1 (X := X) (I := I) (t := t) hM hs
          obtain ⟨s3, rfl, s0⟩ := hs
          refine eX12_critical _ _ _ (bX12_critical_0 _ _ _ (zvRd ob_98 h1 (by decide) ?_))
          rw [if_neg (by decide), if_pos hy]
          refine zvV ob_98 (m_laysTwos (hM s s3)) (by decide) ?_
          rintro w1 ⟨F, G, rfl, hT⟩
          rw [if_pos hy1]
          refine ⟨_, fi_98_21.rd, ?_⟩
          rw [zIf_eq]
          exact zQk.of (zKp.mt I A _ F G)
      · have hy0 : ¬ y < 0 := fun q => by
          have h1 := Int32.le_iff_toInt_le.mp hy
          have h2 := Int32.lt_iff_toInt_lt.mp q
          have h3 : (-1 : Int32).toInt = -1 := by decide
          have h4 : (0 : Int32).toInt = 0 := by decide
          exact hy1 (Int32.toInt_inj.mp (by omega))
        obtain ⟨k, hk, rfl⟩ := nI_of hy0
        refine ⟨match (zCT (S s).1 (S s).2.1)[k]? with | some (a, b) => nI (10 * a + b) | none => -1, fun I A t hC => zQy.mk 5 (by decide) ?_, fun I A t hM => zQy.mk 5 (by decide) ?_⟩
        · have h0 := hC s hs.1
          have h56 := zCT_56 (u := (S s).2.1) h0.1.n8
          refine eX11_critical _ _ _ (bX11_critical_0 _ _ _ (zvO1 ob_0 (v_orderIn1 hC hs) (by decide) ?_))
          rw [if_pos hy]
          refine ⟨_, fr_0_9.rd, zvV ob_89 (v_collect h0.1) (by decide) ?_⟩
          rintro w1 ⟨F, G, rfl, hT⟩
          rw [if_neg hy1]
          have hz : zRd X 0 MX9_twoAt [.ref 89, .int (nI k)] (zWd (zIg I (nI (zCT (S s).1 (S s).2.1).length)) (zTA A F G) t) (match (zCT (S s).1 (S s).2.1)[k]? with | some (a, b) => nI (10 * a + b) | none => -1) := by
            refine eX9_twoAt _ _ (bX9_twoAt_0 _ _ ?_)
            rw [if_neg hy0]
            refine ⟨_, fi_89_6.rd, ?_⟩
            rw [zIg_e, zi_le (by omega) (by omega)]
            by_cases c : (zCT (S s).1 (S s).2.1).length ≤ k
            · rw [if_pos c, List.getElem?_eq_none c]
              exact ⟨rfl, rfl⟩
            · rw [if_neg c]
              obtain ⟨a, b, e1, -⟩ := zlget (show k < (zCT (S s).1 (S s).2.1).length by omega)
              obtain ⟨t1, t2⟩ := hT k a b e1
              refine ⟨_, fr_89_0.rd, _, ar_90.rd (by omega), _, fr_89_1.rd, _, ar_91.rd (by omega), ?_⟩
              rw [zTA_90, zTA_91, t1, t2, e1]
              refine ⟨?_, rfl⟩
              show some (Value.int (nI 10 * nI a + nI b)) = _
              rw [pk_mul, nI_add]
          exact ⟨_, fr_0_9.rd, zvRd ob_89 hz (by decide) (zQk.of (zKp.vt I A _ F G))⟩
        · have h1 := m_ord1 (X := X) (I := I) (t := t) hM hs
          obtain ⟨s3, rfl, s0⟩ := hs
          have H : zMR A s (S s).1 (S s).2.1 (S s).2.2.1 (S s).2.2.2 := hM s s3
          have h56 := zCT_56 (u := (S s).2.1) H.2.1.1
          refine eX12_critical _ _ _ (bX12_critical_0 _ _ _ (zvRd ob_98 h1 (by decide) ?_))
          rw [if_neg (by decide), if_pos hy]
          refine zvV ob_98 (m_laysTwos H) (by decide) ?_
          rintro w1 ⟨F, G, rfl, hT⟩
          rw [if_neg hy1]
          refine ⟨_, fi_98_21.rd, ?_⟩
          rw [zIf_eq, zi_le (by omega) (by omega)]
          by_cases c : (zCT (S s).1 (S s).2.1).length ≤ k
          · rw [if_pos c, List.getElem?_eq_none c]
            exact zQk.of (zKp.mt I A _ F G)
          · rw [if_neg c]
            obtain ⟨a, b, e1, -⟩ := zlget (show k < (zCT (S s).1 (S s).2.1).length by omega)
            obtain ⟨t1, t2⟩ := hT k a b e1
            refine ⟨_, fr_98_19.rd, _, ar_108.rd (by omega), _, fr_98_20.rd, _, ar_109.rd (by omega), ?_⟩
            rw [zMA_108, zMA_109, t1, t2, e1]
            show zQk I A t (nI (10 * a + b)) (some (.int (nI 10 * nI a + nI b))) _
            rw [pk_mul, nI_add]
            exact zQk.of (zKp.mt I A _ F G)
    · refine ⟨-2, fun I A t hC => zQy.mk 5 (by decide) ?_, fun I A t hM => zQy.mk 5 (by decide) ?_⟩
      · refine eX11_critical _ _ _ (bX11_critical_0 _ _ _ (zvO1 ob_0 (v_orderIn1 hC hs) (by decide) ?_))
        rw [if_neg hy]
        exact zQk.id _ _ _ _
      · refine eX12_critical _ _ _ (bX12_critical_0 _ _ _ (zvRd ob_98 (m_ord1 hM hs) (by decide) ?_))
        rw [if_neg (by decide), if_neg hy]
        exact zQk.id _ _ _ _
  · refine ⟨-2, fun I A t hC => zQy.mk 5 (by decide) ?_, fun I A t hM => zQy.mk 5 (by decide) ?_⟩
    · exact eX11_critical _ _ _ (bX11_critical_0 _ _ _ (zvO0 ob_0 (v_orderIn0 hC hn) (by decide) (zQk.id _ _ _ _)))
    · refine eX12_critical _ _ _ (bX12_critical_0 _ _ _ (zvRd ob_98 (m_ord0 hM hn) (by decide) ?_))
      rw [if_pos rfl]
      exact zQk.id _ _ _ _
theorem zRR.up {I A : zF2} {q n R : Nat} {h : Nat → Nat → Nat} (hq : zOq q) (H : zRR I A q n R h) {p : Nat} {f : Nat → Int32} (hp : 75 ≤ p) : zRR I (va_up A p f) q n R h := by
  have hq : q < 75 - 4 := by
    rcases hq with ⟨s, hs, rfl⟩ | ⟨s, hs, rfl⟩ <;> omega
  exact ⟨H.1, H.2.1, fun r i hr hi => by rw [zup_ne (by omega)]; exact H.2.2 r i hr hi⟩
theorem zRR.upI {I A : zF2} {q n R : Nat} {h : Nat → Nat → Nat} (hq : zOq q) (H : zRR I A q n R h) {p : Nat} {f : Nat → Int32} (hp : 75 ≤ p) : zRR (va_up I p f) A q n R h := by
  have hq : q < 75 - 4 := by
    rcases hq with ⟨s, hs, rfl⟩ | ⟨s, hs, rfl⟩ <;> omega
  exact ⟨H.1, by rw [zup_ne (by omega)]; exact H.2.1, H.2.2⟩
theorem q_reversed : zSame X MX11_reversed MX12_reversed [.int x, .int y] S := by
  rcases zslot S x with ⟨s, hs⟩ | hn
  · by_cases hy : zin (S s).2.2.1 y = true
    · obtain ⟨r, hr, rfl⟩ := zin_e.mp hy
      refine ⟨nI (zrv (S s).1 ((S s).2.2.2 r) (zCT (S s).1 (S s).2.1) (zCT (S s).1 (S s).2.1).length), fun I A t hC => zQy.mk 6 (by decide) ?_, fun I A t hM => zQy.mk 6 (by decide) ?_⟩
      · have h0 := hC s hs.1
        refine eX11_reversed _ _ _ (bX11_reversed_0 _ _ _ (zvO1 ob_0 (v_orderWithRow2 hC hs hr) (by decide) ⟨_, fr_0_9.rd, zvV ob_89 (v_collect h0.1) (by decide) ?_⟩))
        rintro w1 ⟨F, G, rfl, hT⟩
        have h1 := zTA_or h0.1 (nI (zCT (S s).1 (S s).2.1).length) F G
        have h2 : zRR (zIg I (nI (zCT (S s).1 (S s).2.1).length)) (zTA A F G) (2 + 5 * s) (S s).1 (S s).2.2.1 (S s).2.2.2 := zRR.upI h1.1 (zRR.up h1.1 (zRR.up h1.1 h0.2 (p := 90) (by decide)) (p := 91) (by decide)) (p := 89) (by decide)
        have h8 := h1.n8
        have h56 := zCT_56 (u := (S s).2.1) h8
        refine ⟨_, fr_0_9.rd, zvRd (d1 := 5) ob_89 (x := nI (zrv (S s).1 ((S s).2.2.2 r) (zCT (S s).1 (S s).2.1) (zCT (S s).1 (S s).2.1).length)) ?_ (by decide) (zQk.of (zKp.vt I A _ F G))⟩
        generalize hI1 : zIg I (nI (zCT (S s).1 (S s).2.1).length) = I1 at *
        have hI2 : I1 89 6 = nI (zCT (S s).1 (S s).2.1).length := by
          rw [← hI1]
          exact zIg_e I _
        generalize hCT : zCT (S s).1 (S s).2.1 = T at *
        have mem : ∀ a b, (a, b) ∈ T → a < (S s).1 ∧ b < (S s).1 := fun a b hab => by
          rw [← hCT] at hab
          have := zCT_mem hab
          exact ⟨this.1, this.2.1⟩
        refine eX9_turnedBy _ _ _ (bX9_turnedBy_0 _ _ _ ?_)
        refine zdown (P := fun k => zRn X 5 0 0 MX9_turnedBy 5 [some (.ref 89), some (.ref (2 + 5 * s)), some (.int (nI r)), some (.int (nI (zrv (S s).1 ((S s).2.2.2 r) T k))), some (.int (nI k))] [] (zWd I1 (zTA A F G) t) _) (n := T.length) ?_ (fun k hk ih => ?_) 0 (Nat.zero_le _)
        · refine bX9_turnedBy_5 _ _ _ _ _ ⟨_, fi_89_6.rd, ?_⟩
          rw [hI2, if_pos (Int32.le_refl _)]
          exact ⟨rfl, rfl⟩
        · obtain ⟨a, b, e1, hm⟩ := zlget hk
          obtain ⟨t1, t2⟩ := hT k a b e1
          obtain ⟨ha, hb⟩ := mem a b hm
          rw [zrv_s e1] at ih
          have g1 : zaI (zWd I1 (zTA A F G) t) 90 (nI k) = some (nI a) := by
            rw [ar_90.rd (by omega), zTA_90, t1]
          have g2 : zaI (zWd I1 (zTA A F G) t) 91 (nI k) = some (nI b) := by
            rw [ar_91.rd (by omega), zTA_91, t2]
          refine bX9_turnedBy_5 _ _ _ _ _ ⟨_, fi_89_6.rd, ?_⟩
          rw [hI2, zi_le (by omega) (by omega), if_neg (by omega)]
          refine zvRf h1.1.ob (v_rowsOf h1.1) (by decide) ⟨_, fr_89_1.rd, _, g2, _, fr_89_0.rd, _, g1, zvRd h1.1.ob (v_size h1) (by decide) (zvRd h1.1.rob (v_comesAhead h1.1 h2 h8 hr hb ha) (by decide) ?_)⟩
          rw [zB_ifP]
          by_cases c : zpl (S s).1 ((S s).2.2.2 r) b < zpl (S s).1 ((S s).2.2.2 r) a
          · rw [if_pos c]
            rw [if_pos c] at ih
            refine bX9_turnedBy_46 _ _ _ _ _ ?_
            rw [nI_1, nI_1]
            exact ih
          · rw [if_neg c]
            rw [if_neg c] at ih
            refine bX9_turnedBy_46 _ _ _ _ _ ?_
            rw [nI_1]
            exact ih
      · have h1 := m_row1 (X := X) (I := I) (t := t) (y := nI r) hM hs
        obtain ⟨s3, rfl, s0⟩ := hs
        have H : zMR A s (S s).1 (S s).2.1 (S s).2.2.1 (S s).2.2.2 := hM s s3
        have h8 := H.2.1.1
        have h56 := zCT_56 (u := (S s).2.1) h8
        obtain ⟨f1, f2⟩ := H.2.2.1.f hr
        refine eX12_reversed _ _ _ (bX12_reversed_0 _ _ _ (zvRd ob_98 h1 (by decide) ?_))
        rw [zB_t hy]
        refine zvV ob_98 (m_laysTwos H) (by decide) ?_
        rintro w1 ⟨F, G, rfl, hT⟩
        have H1 := zMA_H H F G
        have hI2 := zIf_eq I 21 (nI (zCT (S s).1 (S s).2.1).length)
        have hKp := zKp.mt I A (nI (zCT (S s).1 (S s).2.1).length) F G
        generalize hI1 : zIf I 21 (nI (zCT (S s).1 (S s).2.1).length) = I1 at *
        generalize hCT : zCT (S s).1 (S s).2.1 = T at *
        have mem : ∀ a b, (a, b) ∈ T → a < (S s).1 ∧ b < (S s).1 := fun a b hab => by
          rw [← hCT] at hab
          have := zCT_mem hab
          exact ⟨this.1, this.2.1⟩
        refine zdown (P := fun k => zRn X 6 0 0 MX12_reversed 22 [some (.ref 98), some (.int (nI s)), some (.int (nI r)), some (.int (nI (zrv (S s).1 ((S s).2.2.2 r) T k))), some (.int (nI k))] [] (zWd I1 (zMA A F G) t) _) (n := T.length) ?_ (fun k hk ih => ?_) 0 (Nat.zero_le _)
        · refine bX12_reversed_22 _ _ _ _ _ ⟨_, fi_98_21.rd, ?_⟩
          rw [hI2, if_pos (Int32.le_refl _)]
          exact zQk.of hKp
        · obtain ⟨a, b, e1, hm⟩ := zlget hk
          obtain ⟨t1, t2⟩ := hT k a b e1
          obtain ⟨ha, hb⟩ := mem a b hm
          rw [zrv_s e1] at ih
          have g1 : zaI (zWd I1 (zMA A F G) t) 108 (nI k) = some (nI a) := by
            rw [ar_108.rd (by omega), zMA_108, t1]
          have g2 : zaI (zWd I1 (zMA A F G) t) 109 (nI k) = some (nI b) := by
            rw [ar_109.rd (by omega), zMA_109, t2]
          have pa := (zpl_ok h8 f1 f2 ha).1
          have pb := (zpl_ok h8 f1 f2 hb).1
          refine bX12_reversed_22 _ _ _ _ _ ⟨_, fi_98_21.rd, ?_⟩
          rw [hI2, zi_le (by omega) (by omega), if_neg (by omega)]
          refine ⟨_, fr_98_19.rd, _, g1, zvRd ob_98 (m_placeIn H1 hr ha) (by decide) ⟨_, fr_98_20.rd, _, g2, zvRd ob_98 (m_placeIn H1 hr hb) (by decide) ?_⟩⟩
          rw [zi_le (by omega) (by omega)]
          by_cases c : zpl (S s).1 ((S s).2.2.2 r) a ≤ zpl (S s).1 ((S s).2.2.2 r) b
          · rw [if_pos c]
            rw [if_neg (by omega), Nat.add_zero] at ih
            refine bX12_reversed_66 _ _ _ _ _ _ ?_
            show zRn X 6 0 0 _ _ [_, _, _, some (.int (_ + nI 0)), _] _ _ _
            rw [nI_1, nI_add, Nat.add_zero]
            exact ih
          · rw [if_neg c]
            rw [if_pos (by omega)] at ih
            refine bX12_reversed_66 _ _ _ _ _ _ ?_
            rw [nI_1, nI_1]
            exact ih
    · rw [Bool.not_eq_true] at hy
      refine ⟨-2, fun I A t hC => zQy.mk 5 (by decide) ?_, fun I A t hM => zQy.mk 5 (by decide) ?_⟩
      · exact eX11_reversed _ _ _ (bX11_reversed_0 _ _ _ (zvO0 ob_0 (v_orderWithRow1 hC hs hy) (by decide) (zQk.id _ _ _ _)))
      · refine eX12_reversed _ _ _ (bX12_reversed_0 _ _ _ (zvRd ob_98 (m_row1 hM hs) (by decide) ?_))
        rw [zB_f hy]
        exact zQk.id _ _ _ _
  · refine ⟨-2, fun I A t hC => zQy.mk 5 (by decide) ?_, fun I A t hM => zQy.mk 5 (by decide) ?_⟩
    · exact eX11_reversed _ _ _ (bX11_reversed_0 _ _ _ (zvO0 ob_0 (v_orderWithRow0 hC hn) (by decide) (zQk.id _ _ _ _)))
    · refine eX12_reversed _ _ _ (bX12_reversed_0 _ _ _ (zvRd ob_98 (m_row0 hM hn) (by decide) ?_))
      rw [if_pos rfl]
      exact zQk.id _ _ _ _
end ZQc
