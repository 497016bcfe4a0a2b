/-! ===== at most sixteen covers among eight things ===== -/
def zq1 (b : Bool) : Nat := if b = true then 1 else 0
theorem zq1_le (b : Bool) : zq1 b ≤ 1 := by cases b <;> decide
theorem zsm_one : ∀ n, zsm n (fun _ => 1) = n
  | 0 => rfl
  | n + 1 => by rw [zsm_s, zsm_one n]
theorem zmax (d : Nat → Nat) : ∀ n, 0 < n → ∃ x, x < n ∧ ∀ v, v < n → d v ≤ d x
  | 0, h => absurd h (Nat.lt_irrefl _)
  | 1, _ => ⟨0, by decide, fun v hv => by
    have : v = 0 := by omega
    subst this
    exact Nat.le_refl _⟩
  | n + 2, _ => by
    obtain ⟨x, hx, h⟩ := zmax d (n + 1) (by omega)
    by_cases c : d x ≤ d (n + 1)
    · refine ⟨n + 1, by omega, fun v hv => ?_⟩
      rcases Nat.lt_or_ge v (n + 1) with q | q
      · exact Nat.le_trans (h v q) c
      · have : v = n + 1 := by omega
        subst this
        exact Nat.le_refl _
    · refine ⟨x, by omega, fun v hv => ?_⟩
      rcases Nat.lt_or_ge v (n + 1) with q | q
      · exact h v q
      · have : v = n + 1 := by omega
        subst this
        omega
theorem z16 : ∀ n, n ≤ 8 → ∀ d, d ≤ n → d * (n - d) ≤ 16 := by decide
theorem zcov16 {n : Nat} {u : Nat → Nat} (h : zPo n u) : zsm n (fun a => zsm n (fun b => zq1 (zcv n u a b))) ≤ 16 := by
  have h8 := h.1
  have h4 := h.2.2.2.1
  have h5 := h.2.2.2.2
  rcases Nat.eq_zero_or_pos n with z | z
  · subst z
    exact Nat.zero_le _
  · let up : Nat → Nat := fun v => zsm n (fun b => zq1 (zcv n u v b))
    let dn : Nat → Nat := fun v => zsm n (fun a => zq1 (zcv n u a v))
    obtain ⟨x, hx, hm⟩ := zmax (fun v => up v + dn v) n z
    let m : Nat → Nat := fun v => if zcv n u x v = true ∨ zcv n u v x = true then 0 else 1
    have lt : ∀ {a b}, zcv n u a b = true → zlt u a b = true := fun hc => ((zcv_iff h _ _).mp hc).1
    have bt : ∀ {a b c}, zcv n u a b = true → zlt u a c = true → zlt u c b = true → False := fun {a b c} hc h1 h2 => by
      have := ((zcv_iff h _ _).mp hc).2 c h1
      rw [h2] at this
      cases this
    have as : ∀ {a b}, zlt u a b = true → zlt u b a = true → False := fun {a b} h1 h2 => by
      have := h5 a b a h1 h2
      rw [h4 a] at this
      cases this
    have s1 : zsm n (fun a => zsm n (fun b => zq1 (zcv n u a b))) ≤ zsm n (fun a => zsm n (fun b => m a * zq1 (zcv n u a b) + m b * zq1 (zcv n u a b))) := by
      refine zsm_le (fun a _ => zsm_le (fun b _ => ?_))
      by_cases c : zcv n u a b = true
      · have q : zq1 (zcv n u a b) = 1 := by rw [c]; rfl
        rw [q, Nat.mul_one, Nat.mul_one]
        show 1 ≤ (if _ then 0 else 1) + (if _ then 0 else 1)
        by_cases ca : zcv n u x a = true ∨ zcv n u a x = true
        · by_cases cb : zcv n u x b = true ∨ zcv n u b x = true
          · exfalso
            rcases ca with ca | ca <;> rcases cb with cb | cb
            · exact bt cb (lt ca) (lt c)
            · exact as (lt c) (h5 _ _ _ (lt cb) (lt ca))
            · exact bt c (lt ca) (lt cb)
            · exact bt ca (lt c) (lt cb)
          · rw [if_neg cb]
            omega
        · rw [if_neg ca]
          omega
      · have q : zq1 (zcv n u a b) = 0 := by unfold zq1; rw [if_neg c]
        rw [q]
        omega
    have s2 : zsm n (fun a => zsm n (fun b => m a * zq1 (zcv n u a b) + m b * zq1 (zcv n u a b))) = zsm n (fun v => m v * (up v + dn v)) := by
      have e1 : zsm n (fun a => zsm n (fun b => m a * zq1 (zcv n u a b) + m b * zq1 (zcv n u a b))) = zsm n (fun a => zsm n (fun b => m a * zq1 (zcv n u a b)) + zsm n (fun b => m b * zq1 (zcv n u a b))) := zsm_cong (fun a _ => zsm_add _ _ n)
      rw [e1, zsm_add (fun a => zsm n (fun b => m a * zq1 (zcv n u a b))) (fun a => zsm n (fun b => m b * zq1 (zcv n u a b))) n, zsm_swap (fun a b => m b * zq1 (zcv n u a b)) n n, ← zsm_add]
      refine zsm_cong (fun v _ => ?_)
      rw [zsm_mul, zsm_mul, Nat.mul_add]
    have s3 : zsm n (fun v => m v * (up v + dn v)) ≤ zsm n (fun v => (up x + dn x) * m v) := zsm_le (fun v hv => by
      rw [Nat.mul_comm]
      exact Nat.mul_le_mul_right _ (hm v hv))
    have s4 : zsm n m + (up x + dn x) = n := by
      have e : zsm n (fun v => m v + (zq1 (zcv n u x v) + zq1 (zcv n u v x))) = n := by
        refine Eq.trans (zsm_cong (g' := fun _ => 1) (fun v _ => ?_)) (zsm_one n)
        show (if _ then 0 else 1) + _ = 1
        by_cases c1 : zcv n u x v = true
        · have c2 : ¬ zcv n u v x = true := fun c2 => as (lt c1) (lt c2)
          rw [if_pos (Or.inl c1), c1, Bool.not_eq_true] at *
          rw [c2]
          rfl
        · by_cases c2 : zcv n u v x = true
          · rw [if_pos (Or.inr c2), c2]
            rw [Bool.not_eq_true] at c1
            rw [c1]
            rfl
          · rw [if_neg (by rintro (q | q); exact c1 q; exact c2 q)]
            rw [Bool.not_eq_true] at c1 c2
            rw [c1, c2]
            rfl
      rw [zsm_add, zsm_add] at e
      exact e
    rw [zsm_mul] at s3
    have s5 := z16 n h8 (up x + dn x) (by omega)
    have s6 : zsm n m = n - (up x + dn x) := by omega
    rw [s6] at s3
    omega
