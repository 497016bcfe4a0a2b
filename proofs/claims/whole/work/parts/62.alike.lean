/-! ===== likeness: alike, selves ===== -/
theorem zsm_pt (h : Nat → Nat) (m c : Nat) : ∀ n, m < n → zsm n (fun x => if x = m then c else h x) + h m = zsm n h + c
  | 0, hm => absurd hm (Nat.not_lt_zero _)
  | n + 1, hm => by
    rw [zsm_s, zsm_s]
    rcases Nat.lt_or_ge m n with q | q
    · have ih := zsm_pt h m c n q
      rw [if_neg (by omega)]
      omega
    · have e : m = n := by omega
      subst e
      rw [if_pos rfl]
      have : zsm m (fun x => if x = m then c else h x) = zsm m h := zsm_cong (fun j hj => if_neg (by omega))
      rw [this]
      omega
theorem zsm_perm : ∀ (n : Nat) (h F : Nat → Nat), (∀ a, a < n → F a < n) → (∀ a b, a < n → b < n → F a = F b → a = b) → zsm n (fun b => h (F b)) = zsm n h
  | 0, _, _, _, _ => rfl
  | n + 1, h, F, h1, h2 => by
    rw [zsm_s, zsm_s]
    rcases Nat.lt_or_ge (F n) n with q | q
    · have ih := zsm_perm n (fun x => if x = F n then h n else h x) (fun b => if F b = n then F n else F b) (fun a ha => by
        have := h1 a (by omega)
        show (if F a = n then F n else F a) < n
        split <;> omega) (fun a b ha hb e => by
        have e : (if F a = n then F n else F a) = (if F b = n then F n else F b) := e
        have na : F a ≠ F n := fun z => by
          have := h2 a n (by omega) (by omega) z
          omega
        have nb : F b ≠ F n := fun z => by
          have := h2 b n (by omega) (by omega) z
          omega
        refine h2 a b (by omega) (by omega) ?_
        split at e <;> split at e <;> omega)
      have e1 : zsm n (fun b => h (F b)) = zsm n (fun b => (fun x => if x = F n then h n else h x) ((fun b => if F b = n then F n else F b) b)) := zsm_cong (fun b hb => by
        have nb : F b ≠ F n := fun z => by
          have := h2 b n (by omega) (by omega) z
          omega
        show h (F b) = (if (if F b = n then F n else F b) = F n then h n else h (if F b = n then F n else F b))
        by_cases c : F b = n
        · rw [if_pos c, if_pos rfl, c]
        · rw [if_neg c, if_neg nb])
      rw [e1, ih]
      exact zsm_pt h (F n) (h n) n q
    · have e : F n = n := by
        have := h1 n (by omega)
        omega
      rw [e, zsm_perm n h F (fun a ha => by
        have := h1 a (by omega)
        have : F a ≠ n := fun z => by
          have := h2 a n (by omega) (by omega) (z.trans e.symm)
          omega
        omega) (fun a b ha hb => h2 a b (by omega) (by omega))]
/-- k can be named b, where lesser ones are named by f -/
def zfo (u v : Nat → Nat) (f : Nat → Nat) (k b : Nat) : Bool := zall k (fun c => decide (zlt u c k = zlt v (f c) b) && decide (zlt u k c = zlt v b (f c)))
def zfi (u v : Nat → Nat) (f : Nat → Nat) (k b : Nat) : Bool := !(zRw f k).testBit b && zfo u v f k b
def zNm (n : Nat) (u v : Nat → Nat) : Nat → Nat → (Nat → Nat) → Nat
  | 0, _, _ => 1
  | j + 1, k, f => zsm n (fun b => if zfi u v f k b = true then zNm n u v j (k + 1) (va_up f k b) else 0)
theorem zNm_s (n : Nat) (u v : Nat → Nat) (j k : Nat) (f : Nat → Nat) : zNm n u v (j + 1) k f = zsm n (fun b => if zfi u v f k b = true then zNm n u v j (k + 1) (va_up f k b) else 0) := rfl
def zIo (n : Nat) (u v F : Nat → Nat) : Prop := (∀ a, a < n → F a < n) ∧ (∀ a b, a < n → b < n → F a = F b → a = b) ∧ ∀ a b, a < n → b < n → zlt u a b = zlt v (F a) (F b)
def zPp (n : Nat) (u v : Nat → Nat) (k : Nat) (f : Nat → Nat) : Prop := (∀ a, a < k → f a < n) ∧ (∀ a b, a < k → b < k → f a = f b → a = b) ∧ ∀ a b, a < k → b < k → zlt u a b = zlt v (f a) (f b)
theorem zfi_iff {u v f : Nat → Nat} {k b : Nat} : zfi u v f k b = true ↔ ((∀ c, c < k → f c ≠ b) ∧ ∀ c, c < k → zlt u c k = zlt v (f c) b ∧ zlt u k c = zlt v b (f c)) := by
  unfold zfi zfo
  rw [Bool.and_eq_true, Bool.not_eq_true', zall_iff]
  constructor
  · rintro ⟨h1, h2⟩
    refine ⟨fun c hc e => ?_, fun c hc => ?_⟩
    · rw [(zRw_bit f b k).mpr ⟨c, hc, e⟩] at h1
      cases h1
    · have := h2 c hc
      simpa using this
  · rintro ⟨h1, h2⟩
    refine ⟨?_, fun c hc => ?_⟩
    · cases hb : (zRw f k).testBit b
      · rfl
      · obtain ⟨c, hc, e⟩ := (zRw_bit f b k).mp hb
        exact absurd e (h1 c hc)
    · have := h2 c hc
      simpa using this
theorem zPp_s {n : Nat} {u v : Nat → Nat} (hu : zPo n u) (hv : zPo n v) {k b : Nat} {f : Nat → Nat} (h : zPp n u v k f) (hb : b < n) (hf : zfi u v f k b = true) : zPp n u v (k + 1) (va_up f k b) := by
  obtain ⟨f1, f2⟩ := zfi_iff.mp hf
  refine ⟨fun a ha => ?_, fun a c ha hc => ?_, fun a c ha hc => ?_⟩
  · by_cases e : a = k
    · rw [e, zup_eq]
      exact hb
    · rw [zup_ne e]
      exact h.1 a (by omega)
  · by_cases e : a = k
    · by_cases e2 : c = k
      · exact fun _ => e.trans e2.symm
      · rw [e, zup_eq, zup_ne e2]
        exact fun z => absurd z.symm (f1 c (by omega))
    · by_cases e2 : c = k
      · rw [e2, zup_eq, zup_ne e]
        exact fun z => absurd z (f1 a (by omega))
      · rw [zup_ne e, zup_ne e2]
        exact h.2.1 a c (by omega) (by omega)
  · by_cases e : a = k
    · by_cases e2 : c = k
      · rw [e, e2, zup_eq, hu.2.2.2.1, hv.2.2.2.1]
      · rw [e, zup_eq, zup_ne e2]
        exact (f2 c (by omega)).2
    · by_cases e2 : c = k
      · rw [e2, zup_eq, zup_ne e]
        exact (f2 a (by omega)).1
      · rw [zup_ne e, zup_ne e2]
        exact h.2.2 a c (by omega) (by omega)
theorem zNm_ex {n : Nat} {u v : Nat → Nat} (hu : zPo n u) (hv : zPo n v) : ∀ (j k : Nat) (f : Nat → Nat), k + j = n → zPp n u v k f → (0 < zNm n u v j k f ↔ ∃ F, zIo n u v F ∧ ∀ a, a < k → F a = f a)
  | 0, k, f, hk, hp => by
    have e : k = n := by omega
    subst e
    constructor
    · intro _
      exact ⟨f, hp, fun _ _ => rfl⟩
    · intro _
      exact Nat.one_pos
  | j + 1, k, f, hk, hp => by
    rw [zNm_s]
    constructor
    · intro h
      obtain ⟨b, hb, h1⟩ := zsm_pos h
      have h1 : 0 < (if zfi u v f k b = true then zNm n u v j (k + 1) (va_up f k b) else 0) := h1
      by_cases c : zfi u v f k b = true
      · rw [if_pos c] at h1
        obtain ⟨F, g1, g2⟩ := (zNm_ex hu hv j (k + 1) (va_up f k b) (by omega) (zPp_s hu hv hp hb c)).mp h1
        refine ⟨F, g1, fun a ha => ?_⟩
        rw [g2 a (by omega), zup_ne (by omega)]
      · rw [if_neg c] at h1
        omega
    · rintro ⟨F, g1, g2⟩
      have hc : zfi u v f k (F k) = true := zfi_iff.mpr ⟨fun c hc e => by
        rw [← g2 c hc] at e
        have := g1.2.1 c k (by omega) (by omega) e
        omega, fun c hc => by
        rw [← g2 c hc]
        exact ⟨g1.2.2 c k (by omega) (by omega), g1.2.2 k c (by omega) (by omega)⟩⟩
      have hb := g1.1 k (by omega)
      have h1 := (zNm_ex hu hv j (k + 1) (va_up f k (F k)) (by omega) (zPp_s hu hv hp hb hc)).mpr ⟨F, g1, fun a ha => by
        by_cases e : a = k
        · rw [e, zup_eq]
        · rw [zup_ne e]
          exact g2 a (by omega)⟩
      have h2 := zsm_ge (g := fun b => if zfi u v f k b = true then zNm n u v j (k + 1) (va_up f k b) else 0) hb
      have h2 : (if zfi u v f k (F k) = true then zNm n u v j (k + 1) (va_up f k (F k)) else 0) ≤ _ := h2
      rw [if_pos hc] at h2
      omega
/-- likes have as many below them and above them -/
def zpn (n : Nat) (u v : Nat → Nat) (a b : Nat) : Bool := decide (zpc (u a) = zpc (v b)) && decide (zpc (zov n u a) = zpc (zov n v b))
theorem zpn_ok {n : Nat} {u v F : Nat → Nat} (hu : zPo n u) (hv : zPo n v) (hF : zIo n u v F) {a : Nat} (ha : a < n) : zpn n u v a (F a) = true := by
  have e1 : zpc (u a) = zpc (v (F a)) := by
    rw [← zmk_u hu a, ← zmk_u hv (F a), zpc_mk _ n hu.1, zpc_mk _ n hu.1, ← zsm_perm n (fun c => if zlt v c (F a) = true then 1 else 0) F hF.1 hF.2.1]
    exact zsm_cong (fun c hc => by rw [hF.2.2 c a hc ha])
  have e2 : zpc (zov n u a) = zpc (zov n v (F a)) := by
    unfold zov
    rw [zpc_mk _ n hu.1, zpc_mk _ n hu.1, ← zsm_perm n (fun c => if (v c).testBit (F a) = true then 1 else 0) F hF.1 hF.2.1]
    exact zsm_cong (fun c hc => by
      have : (u c).testBit a = (v (F c)).testBit (F a) := hF.2.2 a c ha hc
      rw [this])
  unfold zpn
  simp [e1, e2]
/-- the class's search finds what there is -/
theorem zNm_any {n : Nat} {u v : Nat → Nat} (hu : zPo n u) (hv : zPo n v) {j k : Nat} {f : Nat → Nat} (hk : k + (j + 1) = n) (hp : zPp n u v k f) : zany n (fun b => !(zRw f k).testBit b && (zpn n u v k b && zfo u v f k b) && decide (0 < zNm n u v j (k + 1) (va_up f k b))) = decide (0 < zNm n u v (j + 1) k f) := by
  rw [Bool.eq_iff_iff, zany_iff, decide_eq_true_eq]
  constructor
  · rintro ⟨b, hb, h⟩
    simp only [Bool.and_eq_true, decide_eq_true_eq] at h
    obtain ⟨⟨h1, -, h2⟩, h3⟩ := h
    have hc : zfi u v f k b = true := by
      unfold zfi
      rw [h1, h2]
      rfl
    rw [zNm_s]
    have h4 := zsm_ge (g := fun b => if zfi u v f k b = true then zNm n u v j (k + 1) (va_up f k b) else 0) hb
    have h4 : (if zfi u v f k b = true then zNm n u v j (k + 1) (va_up f k b) else 0) ≤ _ := h4
    rw [if_pos hc] at h4
    omega
  · intro h
    obtain ⟨F, g1, g2⟩ := (zNm_ex hu hv (j + 1) k f hk hp).mp h
    have hc : zfi u v f k (F k) = true := zfi_iff.mpr ⟨fun c hc e => by
      rw [← g2 c hc] at e
      have := g1.2.1 c k (by omega) (by omega) e
      omega, fun c hc => by
      rw [← g2 c hc]
      exact ⟨g1.2.2 c k (by omega) (by omega), g1.2.2 k c (by omega) (by omega)⟩⟩
    have hb := g1.1 k (by omega)
    have h1 := (zNm_ex hu hv j (k + 1) (va_up f k (F k)) (by omega) (zPp_s hu hv hp hb hc)).mpr ⟨F, g1, fun a ha => by
      by_cases e : a = k
      · rw [e, zup_eq]
      · rw [zup_ne e]
        exact g2 a (by omega)⟩
    refine ⟨F k, hb, ?_⟩
    unfold zfi at hc
    rw [Bool.and_eq_true] at hc
    rw [hc.1, hc.2, zpn_ok hu hv g1 (by omega), decide_eq_true h1]
    rfl
theorem zRw_cong {f g : Nat → Nat} : ∀ k, (∀ a, a < k → f a = g a) → zRw f k = zRw g k
  | 0, _ => rfl
  | k + 1, h => by rw [zRw_s, zRw_s, zRw_cong k (fun a ha => h a (by omega)), h k (by omega)]
theorem zfi_cong {u v f g : Nat → Nat} {k b : Nat} (h : ∀ a, a < k → f a = g a) : zfi u v f k b = zfi u v g k b := by
  rw [Bool.eq_iff_iff, zfi_iff, zfi_iff]
  constructor
  · rintro ⟨h1, h2⟩
    exact ⟨fun c hc => by rw [← h c hc]; exact h1 c hc, fun c hc => by rw [← h c hc]; exact h2 c hc⟩
  · rintro ⟨h1, h2⟩
    exact ⟨fun c hc => by rw [h c hc]; exact h1 c hc, fun c hc => by rw [h c hc]; exact h2 c hc⟩
theorem zNm_cong {n : Nat} {u v : Nat → Nat} : ∀ (j k : Nat) (f g : Nat → Nat), (∀ a, a < k → f a = g a) → zNm n u v j k f = zNm n u v j k g
  | 0, _, _, _, _ => rfl
  | j + 1, k, f, g, h => by
    rw [zNm_s, zNm_s]
    refine zsm_cong (fun b hb => ?_)
    rw [zfi_cong h, zNm_cong j (k + 1) (va_up f k b) (va_up g k b) (fun a ha => by
      by_cases e : a = k
      · rw [e, zup_eq, zup_eq]
      · rw [zup_ne e, zup_ne e]
        exact h a (by omega))]
theorem zNm_comp {n : Nat} {u F : Nat → Nat} (hF : zIo n u u F) : ∀ (j k : Nat) (f : Nat → Nat), (∀ a, a < k → f a < n) → zNm n u u j k (fun a => F (f a)) = zNm n u u j k f
  | 0, _, _, _ => rfl
  | j + 1, k, f, hf => by
    rw [zNm_s, zNm_s, ← zsm_perm n (fun b => if zfi u u (fun a => F (f a)) k b = true then zNm n u u j (k + 1) (va_up (fun a => F (f a)) k b) else 0) F hF.1 hF.2.1]
    refine zsm_cong (fun b hb => ?_)
    have e1 : zfi u u (fun a => F (f a)) k (F b) = zfi u u f k b := by
      rw [Bool.eq_iff_iff, zfi_iff, zfi_iff]
      have hlt : ∀ c, c < k → zlt u (f c) b = zlt u (F (f c)) (F b) ∧ zlt u b (f c) = zlt u (F b) (F (f c)) := fun c hc => ⟨hF.2.2 _ _ (hf c hc) hb, hF.2.2 _ _ hb (hf c hc)⟩
      constructor
      · rintro ⟨h1, h2⟩
        exact ⟨fun c hc e => h1 c hc (by show F (f c) = F b; rw [e]), fun c hc => by rw [(hlt c hc).1, (hlt c hc).2]; exact h2 c hc⟩
      · rintro ⟨h1, h2⟩
        refine ⟨fun c hc e => h1 c hc (hF.2.1 _ _ (hf c hc) hb e), fun c hc => ?_⟩
        have := h2 c hc
        rw [(hlt c hc).1, (hlt c hc).2] at this
        exact this
    have e2 : va_up (fun a => F (f a)) k (F b) = fun a => F (va_up f k b a) := by
      funext a
      by_cases e : a = k
      · rw [e, zup_eq, zup_eq]
      · rw [zup_ne e, zup_ne e]
    show (if zfi u u (fun a => F (f a)) k (F b) = true then zNm n u u j (k + 1) (va_up (fun a => F (f a)) k (F b)) else 0) = _
    rw [e1, e2, zNm_comp hF j (k + 1) (va_up f k b) (fun a ha => by
      by_cases e : a = k
      · rw [e, zup_eq]
        exact hb
      · rw [zup_ne e]
        exact hf a (by omega))]
/-- how many names k can have, while lesser ones stay -/
def zpo (n : Nat) (u : Nat → Nat) (k : Nat) (b : Nat) : Nat := if zfi u u (fun a => a) k b = true ∧ 0 < zNm n u u (n - (k + 1)) (k + 1) (va_up (fun a => a) k b) then 1 else 0
def zPo_ (n : Nat) (u : Nat → Nat) : Nat → Nat
  | 0 => 1
  | k + 1 => zPo_ n u k * zsm n (zpo n u k)
theorem zPp_id {n : Nat} {u : Nat → Nat} {k : Nat} (hk : k ≤ n) : zPp n u u k (fun a => a) := ⟨fun a ha => by show a < n; omega, fun a b _ _ e => e, fun _ _ _ _ => rfl⟩
theorem zNm_os {n : Nat} {u : Nat → Nat} (h : zPo n u) {k : Nat} (hk : k < n) : zNm n u u (n - k) k (fun a => a) = zsm n (zpo n u k) * zNm n u u (n - (k + 1)) (k + 1) (fun a => a) := by
  rw [show n - k = (n - (k + 1)) + 1 by omega, zNm_s, Nat.mul_comm, ← zsm_mul]
  refine zsm_cong (fun b hb => ?_)
  unfold zpo
  by_cases c : zfi u u (fun a => a) k b = true
  · rw [if_pos c]
    by_cases c2 : 0 < zNm n u u (n - (k + 1)) (k + 1) (va_up (fun a => a) k b)
    · rw [if_pos ⟨c, c2⟩, Nat.mul_one]
      obtain ⟨F, g1, g2⟩ := (zNm_ex h h _ (k + 1) _ (by omega) (zPp_s h h (zPp_id (by omega)) hb c)).mp c2
      rw [← zNm_comp g1 (n - (k + 1)) (k + 1) (fun a => a) (fun a ha => by show a < n; omega)]
      exact zNm_cong _ _ _ _ (fun a ha => (g2 a ha).symm)
    · rw [if_neg (fun z => c2 z.2), Nat.mul_zero]
      omega
  · rw [if_neg c, if_neg (fun z => c z.1), Nat.mul_zero]
theorem zPo_N {n : Nat} {u : Nat → Nat} (h : zPo n u) : ∀ k, k ≤ n → zNm n u u n 0 (fun a => a) = zPo_ n u k * zNm n u u (n - k) k (fun a => a)
  | 0, _ => by
    show _ = 1 * _
    rw [Nat.one_mul]
    rfl
  | k + 1, hk => by
    show _ = (zPo_ n u k * zsm n (zpo n u k)) * _
    rw [zPo_N h k (by omega), zNm_os h (by omega), Nat.mul_assoc]
theorem zB_eq (a b : Bool) : (zB a = zB b) = (a = b) := by cases a <;> cases b <;> simp [zB]
section ZLk
variable {X : zX} {I A : zF2} {t : zW} {q1 q2 n : Nat} {u v : Nat → Nat}
theorem v_isName (h1 : zOR I A q1 n u) (h2 : zOR I A q2 n v) {k b : Nat} {f : Nat → Nat} (hk : k < n) (hb : b < n) (hf : ∀ c, c < k → f c < n) (hD : ∀ c, c < k → A 97 c = nI (f c)) : zRd X 3 MX3_isName [.ref q1, .ref q2, .ref 97, .int (nI k), .int (nI b)] (zWd I A t) (zB (zpn n u v k b && zfo u v f k b)) := by
  have h8 := h1.n8
  have h28 := z28 h8
  have l1 := zov_lt n u k
  have l2 := zov_lt n v b
  have p1 := zpc8 (u k)
  have p2 := zpc8 (v b)
  have p3 := zpc8 (zov n u k)
  have p4 := zpc8 (zov n v b)
  refine eX3_isName _ _ _ _ _ (bX3_isName_0 _ _ _ _ _ (zvRd h1.1.ob (v_belowOf h1 (by omega)) (by decide) (zcRd (v_bc (h1.2.1.u31 k)) (by decide) (zvRd h2.1.ob (v_belowOf h2 (by omega)) (by decide) (zcRd (v_bc (h2.2.1.u31 b)) (by decide) ?_)))))
  rw [zi_eq (by omega) (by omega)]
  unfold zpn
  by_cases c1 : zpc (u k) = zpc (v b)
  · rw [if_pos c1]
    refine zvRd h1.1.ob (v_aboveOf h1 (by omega)) (by decide) (zcRd (v_bc (by omega)) (by decide) (zvRd h2.1.ob (v_aboveOf h2 (by omega)) (by decide) (zcRd (v_bc (by omega)) (by decide) ?_)))
    rw [zi_eq (by omega) (by omega)]
    by_cases c2 : zpc (zov n u k) = zpc (zov n v b)
    · rw [if_pos c2, decide_eq_true c1, decide_eq_true c2, Bool.true_and, Bool.true_and]
      refine zloopA (R := fun c r => zRn X 3 0 0 MX3_isName 45 [some (.ref q1), some (.ref q2), some (.ref 97), some (.int (nI k)), some (.int (nI b)), some (.int (nI c))] [] (zWd I A t) (fun v w1 => v = some (.int (zB r)) ∧ w1 = zWd I A t)) ?_ (fun c hc r e1 e2 => ?_)
      · refine bX3_isName_45 _ _ _ _ _ _ ?_
        rw [if_pos (Int32.le_refl _)]
        exact ⟨rfl, rfl⟩
      · have hfc := hf c hc
        have g : zaI (zWd I A t) 97 (nI c) = some (nI (f c)) := by rw [ar_97.rd (by omega), hD c hc]
        refine bX3_isName_45 _ _ _ _ _ _ ?_
        rw [zi_le (by omega) (by omega), if_neg (by omega)]
        refine zvRd h1.1.ob (v_under h1 (by omega) (by omega)) (by decide) ⟨_, g, zvRd h2.1.ob (v_under h2 (by omega) (by omega)) (by decide) ?_⟩
        rw [zif (show _ ↔ zlt u c k = zlt v (f c) b by rw [zB_eq])]
        by_cases d1 : zlt u c k = zlt v (f c) b
        · rw [if_pos d1]
          refine zvRd h1.1.ob (v_under h1 (by omega) (by omega)) (by decide) ⟨_, g, zvRd h2.1.ob (v_under h2 (by omega) (by omega)) (by decide) ?_⟩
          rw [zif (show _ ↔ zlt u k c = zlt v b (f c) by rw [zB_eq])]
          by_cases d2 : zlt u k c = zlt v b (f c)
          · rw [if_pos d2, nI_1]
            exact e1 (by rw [decide_eq_true d1, decide_eq_true d2]; rfl)
          · rw [if_neg d2, e2 (by rw [decide_eq_false d2, Bool.and_false])]
            exact ⟨rfl, rfl⟩
        · rw [if_neg d1, e2 (by rw [decide_eq_false d1, Bool.false_and])]
          exact ⟨rfl, rfl⟩
    · rw [if_neg c2, decide_eq_false c2, Bool.and_false, Bool.false_and]
      exact ⟨rfl, rfl⟩
  · rw [if_neg c1, decide_eq_false c1, Bool.false_and, Bool.false_and]
    exact ⟨rfl, rfl⟩
theorem v_extend (h1 : zOR I A q1 n u) (h2 : zOR I A q2 n v) : ∀ (j k : Nat) (f : Nat → Nat), k + j = n → zPp n u v k f → ∀ D : Nat → Int32, (∀ c, c < k → D c = nI (f c)) → zEv X (4 + j) 0 0 MX3_extend [.ref q1, .ref q2, .ref 97, .int (nI k), .int (nI (zRw f k))] (zWd I (va_up A 97 D) t) (fun r w1 => r = some (.int (zB (decide (0 < zNm n u v j k f)))) ∧ ∃ D', w1 = zWd I (va_up A 97 D') t ∧ ∀ c, c < k → D' c = D c) := by
  have h8 := h1.n8
  have h28 := z28 h8
  intro j
  induction j with
  | zero =>
    intro k f hk hp D hD
    have g1 := h1.up (p := 97) (f := D) (by decide)
    refine eX3_extend _ _ _ _ _ (bX3_extend_0 _ _ _ _ _ (zvRd (d1 := 0) g1.1.ob (v_hasN g1 (by omega)) (by omega) ?_))
    rw [zB_ifP, if_neg (by omega)]
    exact ⟨rfl, D, rfl, fun _ _ => rfl⟩
  | succ j ih =>
    intro k f hk hp D hD
    have g1 := h1.up (p := 97) (f := D) (by decide)
    refine eX3_extend _ _ _ _ _ (bX3_extend_0 _ _ _ _ _ (zvRd (d1 := 0) g1.1.ob (v_hasN g1 (by omega)) (by omega) ?_))
    rw [zB_ifP, if_pos (by omega), ← zNm_any h1.2.1 h2.2.1 hk hp]
    have hRl := zRw_lt (n := n) (f := fun a => if a < k then f a else 0) (fun a _ => by
      show (if a < k then f a else 0) < n
      split
      · rename_i z
        exact hp.1 a z
      · omega) k (by omega)
    rw [zRw_cong (g := f) k (fun a ha => if_pos ha)] at hRl
    refine zloopE (R := fun b r => ∀ D2 : Nat → Int32, (∀ c, c < k → D2 c = D c) → zRn X (4 + (j + 1)) 0 0 MX3_extend 13 [some (.ref q1), some (.ref q2), some (.ref 97), some (.int (nI k)), some (.int (nI (zRw f k))), some (.int (nI b))] [] (zWd I (va_up A 97 D2) t) (fun v w1 => v = some (.int (zB r)) ∧ ∃ D', w1 = zWd I (va_up A 97 D') t ∧ ∀ c, c < k → D' c = D c)) ?_ (fun b hb r e1 e2 => ?_) D (fun _ _ => rfl)
    · intro D2 hD2
      have g2 := h2.up (p := 97) (f := D2) (by decide)
      refine bX3_extend_13 _ _ _ _ _ _ (zvRd (d1 := 0) g2.1.ob (v_size g2) (by omega) ?_)
      rw [if_pos (Int32.le_refl _)]
      exact ⟨rfl, D2, rfl, hD2⟩
    · intro D2 hD2
      have g1 := h1.up (p := 97) (f := D2) (by decide)
      have g2 := h2.up (p := 97) (f := D2) (by decide)
      refine bX3_extend_13 _ _ _ _ _ _ (zvRd (d1 := 0) g2.1.ob (v_size g2) (by omega) ?_)
      rw [zi_le (by omega) (by omega), if_neg (by omega), zi_no (by omega) (by omega)]
      have next : (!(zRw f k).testBit b && (zpn n u v k b && zfo u v f k b) && decide (0 < zNm n u v j (k + 1) (va_up f k b))) = false → ∀ D3 : Nat → Int32, (∀ c, c < k → D3 c = D c) → zRn X (4 + (j + 1)) 0 0 MX3_extend 70 [some (.ref q1), some (.ref q2), some (.ref 97), some (.int (nI k)), some (.int (nI (zRw f k))), some (.int (nI b))] [] (zWd I (va_up A 97 D3) t) (fun v w1 => v = some (.int (zB r)) ∧ ∃ D', w1 = zWd I (va_up A 97 D') t ∧ ∀ c, c < k → D' c = D c) := fun z D3 hD3 => by
        refine bX3_extend_70 _ _ _ _ _ _ ?_
        rw [nI_1]
        exact e1 z D3 hD3
      by_cases c1 : (zRw f k).testBit b = true
      · rw [if_pos c1]
        exact next (by rw [c1]; rfl) D2 hD2
      · rw [if_neg c1]
        rw [Bool.not_eq_true] at c1
        refine zcRd (d1 := 3) (v_isName g1 g2 (by omega) hb hp.1 (fun c hc => by rw [zup_eq, hD2 c hc]; exact hD c hc)) (by omega) ?_
        rw [zB_if]
        by_cases c2 : (zpn n u v k b && zfo u v f k b) = true
        · rw [if_pos c2]
          have hfi : zfi u v f k b = true := by
            unfold zfi
            rw [Bool.and_eq_true] at c2
            rw [c1, c2.2]
            rfl
          refine ⟨zWd I (va_up A 97 (upd D2 k (nI b))) t, ?_, ?_⟩
          · rw [ar_97.wr (by omega), zup_eq, bx_uu]
          · have em : zRw f k ||| 2 ^ b = zRw (va_up f k b) (k + 1) := by
              rw [zRw_s, zup_eq, zRw_cong (g := f) k (fun a ha => zup_ne (by omega))]
            have hcall := ih (k + 1) (va_up f k b) (by omega) (zPp_s h1.2.1 h2.2.1 hp hb hfi) (upd D2 k (nI b)) (fun c hc => by
              by_cases e : c = k
              · rw [e, zup_eq, upd_eq]
              · rw [zup_ne e, upd_ne _ _ e, hD2 c (by omega)]
                exact hD c (by omega))
            rw [← em] at hcall
            rw [zb_1 b (by omega), zb_or, nI_1]
            refine ⟨_, _, ?_, hcall, ?_⟩
            · omega
            · rintro v' w1 ⟨rfl, D3, rfl, hD3⟩
              refine ⟨_, rfl, ?_⟩
              show if zB _ = 0 then _ else _
              have hD4 : ∀ c, c < k → D3 c = D c := fun c hc => by
                rw [hD3 c (by omega), upd_ne _ _ (by omega)]
                exact hD2 c hc
              rw [zB_ifP]
              by_cases c3 : 0 < zNm n u v j (k + 1) (va_up f k b)
              · rw [if_pos c3, e2 (by rw [c1, c2, decide_eq_true c3]; rfl)]
                exact ⟨rfl, D3, rfl, hD4⟩
              · rw [if_neg c3]
                exact next (by rw [decide_eq_false c3, Bool.and_false]) D3 hD4
        · rw [if_neg c2]
          rw [Bool.not_eq_true] at c2
          exact next (by rw [c2, Bool.and_false, Bool.false_and]) D2 hD2
theorem v_between {n2 : Nat} (h1 : zOR I A q1 n u) (h2 : zOR I A q2 n2 v) : zEv X 13 0 0 MX3_between [.ref 96, .ref q1, .ref q2] (zWd I A t) (fun r w1 => r = some (.int (zB (decide (n = n2) && decide (0 < zNm n u v n 0 (fun a => a))))) ∧ ∃ D', w1 = zWd I (va_up A 97 D') t) := by
  have h8 := h1.n8
  have h82 := h2.n8
  refine eX3_between _ _ _ (bX3_between_0 _ _ _ (zvRd h1.1.ob (v_size h1) (by decide) (zvRd h2.1.ob (v_size h2) (by decide) ?_)))
  rw [zi_eq (by omega) (by omega)]
  by_cases c : n = n2
  · subst c
    rw [if_pos rfl, decide_eq_true rfl, Bool.true_and]
    refine ⟨_, fr_96_0.rd, ?_⟩
    have hcall := v_extend (X := X) (t := t) h1 h2 n 0 (fun a => a) (by omega) ⟨fun a ha => absurd ha (Nat.not_lt_zero _), fun a b ha => absurd ha (Nat.not_lt_zero _), fun a b ha => absurd ha (Nat.not_lt_zero _)⟩ (A 97) (fun c hc => absurd hc (Nat.not_lt_zero _))
    rw [zup_self] at hcall
    refine ⟨_, _, ?_, hcall, ?_⟩
    · omega
    · rintro v' w1 ⟨rfl, D3, rfl, -⟩
      refine ⟨_, rfl, ?_⟩
      show if zB _ = 0 then _ else _
      rw [zB_if]
      by_cases c3 : decide (0 < zNm n u v n 0 (fun a => a)) = true
      · rw [if_pos c3, c3]
        exact ⟨rfl, D3, rfl⟩
      · rw [if_neg c3]
        rw [Bool.not_eq_true] at c3
        rw [c3]
        exact ⟨rfl, D3, rfl⟩
  · rw [if_neg c, decide_eq_false c, Bool.false_and]
    exact ⟨rfl, A 97, by rw [zup_self]⟩
theorem zRw_id : ∀ k, zRw (fun a => a) k = 2 ^ k - 1
  | 0 => rfl
  | k + 1 => by
    rw [zRw_s, zRw_id k]
    refine zext (fun i => ?_)
    rw [Nat.testBit_or, Nat.testBit_two_pow_sub_one, Nat.testBit_two_pow_sub_one, Nat.testBit_two_pow]
    by_cases h : i < k
    · simp [h]
      omega
    · by_cases e : k = i
      · simp [e]
      · simp [h, e]
        omega
theorem zpo_lo {k b : Nat} (hb : b < k) : zpo n u k b = 0 := by
  unfold zpo
  rw [if_neg]
  rintro ⟨h, -⟩
  exact (zfi_iff.mp h).1 b hb rfl
theorem v_waysOf (h : zOR I A q1 n u) : zEv X 13 0 0 MX3_waysOf [.ref 96, .ref q1] (zWd I A t) (fun r w1 => r = some (.int (nI (zNm n u u n 0 (fun a => a)))) ∧ ∃ D', w1 = zWd I (va_up A 97 D') t) := by
  have h8 := h.n8
  have h28 := z28 h8
  refine eX3_waysOf _ _ (bX3_waysOf_0 _ _ ?_)
  have key : ∀ k, k ≤ n → ∀ D : Nat → Int32, (∀ c, c < k → D c = nI c) → zRn X 13 0 0 MX3_waysOf 7 [some (.ref 96), some (.ref q1), some (.int (nI (zPo_ n u k))), some (.int (nI (zRw (fun a => a) k))), some (.int (nI k)), none, none] [] (zWd I (va_up A 97 D) t) (fun r w1 => r = some (.int (nI (zNm n u u n 0 (fun a => a)))) ∧ ∃ D', w1 = zWd I (va_up A 97 D') t) := by
    refine zdown ?_ ?_
    · intro D hD
      have g := h.up (p := 97) (f := D) (by decide)
      refine bX3_waysOf_7 _ _ _ _ _ (zvRd g.1.ob (v_size g) (by decide) ?_)
      rw [if_pos (Int32.le_refl _), zPo_N h.2.1 n (Nat.le_refl _), Nat.sub_self]
      have : zNm n u u 0 n (fun a => a) = 1 := rfl
      rw [this, Nat.mul_one]
      exact ⟨rfl, D, rfl⟩
    · intro k hk ih D hD
      have g := h.up (p := 97) (f := D) (by decide)
      refine bX3_waysOf_7 _ _ _ _ _ (zvRd g.1.ob (v_size g) (by decide) ?_)
      rw [zi_le (by omega) (by omega), if_neg (by omega)]
      have inner : ∀ b, b ≤ n → k ≤ b → ∀ D : Nat → Int32, (∀ c, c < k → D c = nI c) → zRn X 13 0 0 MX3_waysOf 23 [some (.ref 96), some (.ref q1), some (.int (nI (zPo_ n u k))), some (.int (nI (zRw (fun a => a) k))), some (.int (nI k)), some (.int (nI (zsm b (zpo n u k)))), some (.int (nI b))] [] (zWd I (va_up A 97 D) t) (fun r w1 => r = some (.int (nI (zNm n u u n 0 (fun a => a)))) ∧ ∃ D', w1 = zWd I (va_up A 97 D') t) := by
        refine zdown ?_ ?_
        · intro _ D hD
          have g := h.up (p := 97) (f := D) (by decide)
          refine bX3_waysOf_23 _ _ _ _ _ _ _ (zvRd g.1.ob (v_size g) (by decide) ?_)
          rw [if_pos (Int32.le_refl _)]
          refine ⟨_, fr_96_0.rd, zWd I (va_up A 97 (upd D k (nI k))) t, ?_, ?_⟩
          · rw [ar_97.wr (by omega), zup_eq, bx_uu]
          · rw [pk_mul, zb_1 k (by omega), zb_or, nI_1]
            refine ih (upd D k (nI k)) (fun c hc => ?_)
            by_cases e : c = k
            · rw [e, upd_eq]
            · rw [upd_ne _ _ e]
              exact hD c (by omega)
        · intro b hb ihb hkb D hD
          have ihb := ihb (by omega)
          rw [zsm_s] at ihb
          have g := h.up (p := 97) (f := D) (by decide)
          have hnt : (zRw (fun a => a) k).testBit b = false := by
            rw [zRw_id, Nat.testBit_two_pow_sub_one]
            exact decide_eq_false (by omega)
          refine bX3_waysOf_23 _ _ _ _ _ _ _ (zvRd g.1.ob (v_size g) (by decide) ?_)
          rw [zi_le (by omega) (by omega), if_neg (by omega)]
          refine ⟨_, fr_96_0.rd, zcRd (v_isName g g hk hb (f := fun a => a) (fun c hc => by show c < n; omega) (fun c hc => by rw [zup_eq]; exact hD c hc)) (by decide) ?_⟩
          rw [zB_if]
          by_cases c2 : (zpn n u u k b && zfo u u (fun a => a) k b) = true
          · rw [if_pos c2]
            have hfi : zfi u u (fun a => a) k b = true := by
              unfold zfi
              rw [Bool.and_eq_true] at c2
              rw [hnt, c2.2]
              rfl
            refine ⟨_, fr_96_0.rd, zWd I (va_up A 97 (upd D k (nI b))) t, ?_, _, fr_96_0.rd, ?_⟩
            · rw [ar_97.wr (by omega), zup_eq, bx_uu]
            · have em : zRw (fun a => a) k ||| 2 ^ b = zRw (va_up (fun a => a) k b) (k + 1) := by
                rw [zRw_s, zup_eq, zRw_cong (f := va_up (fun a => a) k b) (g := fun a => a) k (fun a ha => zup_ne (by omega))]
              have hcall := v_extend (X := X) (t := t) h h (n - (k + 1)) (k + 1) (va_up (fun a => a) k b) (by omega) (zPp_s h.2.1 h.2.1 (zPp_id (by omega)) hb hfi) (upd D k (nI b)) (fun c hc => by
                by_cases e : c = k
                · rw [e, zup_eq, upd_eq]
                · rw [zup_ne e, upd_ne _ _ e]
                  exact hD c (by omega))
              rw [← em] at hcall
              rw [zb_1 b (by omega), zb_or, nI_1]
              refine ⟨_, _, ?_, hcall, ?_⟩
              · omega
              · rintro v' w1 ⟨rfl, D3, rfl, hD3⟩
                refine ⟨_, rfl, zcRd (v_bit _) (by decide) (bX3_waysOf_84 _ _ _ _ _ _ _ ?_)⟩
                have eo : nI (zsm b (zpo n u k)) + zB (decide (0 < zNm n u u (n - (k + 1)) (k + 1) (va_up (fun a => a) k b))) = nI (zsm b (zpo n u k) + zpo n u k b) := by
                  unfold zpo
                  by_cases c3 : 0 < zNm n u u (n - (k + 1)) (k + 1) (va_up (fun a => a) k b)
                  · rw [decide_eq_true c3, if_pos ⟨hfi, c3⟩]
                    exact nI_1 _
                  · rw [decide_eq_false c3, if_neg (fun z => c3 z.2)]
                    exact nI_add _ 0
                rw [eo, nI_1]
                exact ihb D3 (fun c hc => by
                  rw [hD3 c (by omega), upd_ne _ _ (by omega)]
                  exact hD c hc)
          · rw [if_neg c2]
            have e0 : zpo n u k b = 0 := by
              unfold zpo
              rw [if_neg]
              rintro ⟨z1, z2⟩
              obtain ⟨F, f1, f2⟩ := (zNm_ex h.2.1 h.2.1 _ (k + 1) _ (by omega) (zPp_s h.2.1 h.2.1 (zPp_id (by omega)) hb z1)).mp z2
              have f3 := zpn_ok h.2.1 h.2.1 f1 hk
              rw [f2 k (by omega), zup_eq] at f3
              unfold zfi at z1
              rw [Bool.and_eq_true] at z1
              rw [f3, z1.2] at c2
              exact c2 rfl
            rw [e0, Nat.add_zero] at ihb
            refine bX3_waysOf_84 _ _ _ _ _ _ _ ?_
            rw [nI_1]
            exact ihb D hD
      have i0 := inner k (by omega) (Nat.le_refl _) D hD
      rw [zsm_0 (fun b hb => zpo_lo hb)] at i0
      exact i0
  have k0 := key 0 (Nat.zero_le _) (A 97) (fun c hc => absurd hc (Nat.not_lt_zero _))
  rw [zup_self] at k0
  exact k0
end ZLk
section ZLm2
variable {X : zX} {I A : zF2} {t : zW} {s s2 n R R2 : Nat} {u v : Nat → Nat} {h h2 : Nat → Nat → Nat}
theorem m_nfit (H : zMR A s n u R h) (H2 : zMR A s2 n v R2 h2) {d k b : Nat} {f : Nat → Nat} {x y : Int32} (hd : 2 < d) (hk : k < n) (hb : b < n) (hf : ∀ c, c < k → f c < n) (D : Nat → Int32) (hD : ∀ c, c < k → D c = nI (f c)) {Q : Option Value → zW → Prop} (g : zRn X d 0 0 MX12_names 121 [some (.ref 98), some (.int (nI s)), some (.int (nI s2)), some (.int (nI k)), some (.int (nI (zRw f k))), some (.int x), some (.int y), some (.int (nI b)), some (.int (zB (zfi u v f k b))), none] [] (zWd I (va_up A 113 D) t) Q) :
    zRn X d 0 0 MX12_names 17 [some (.ref 98), some (.int (nI s)), some (.int (nI s2)), some (.int (nI k)), some (.int (nI (zRw f k))), some (.int x), some (.int y), some (.int (nI b)), none, none] [] (zWd I (va_up A 113 D) t) Q := by
  have h8 := H.2.1.1
  have h28 := z28 h8
  have g1 := H.up (p := 113) (f := D) (by decide)
  have g2 := H2.up (p := 113) (f := D) (by decide)
  have hRl := zRw_lt (n := n) (f := fun a => if a < k then f a else 0) (fun a _ => by
    show (if a < k then f a else 0) < n
    split
    · rename_i z
      exact hf a z
    · omega) k (by omega)
  rw [zRw_cong (g := f) k (fun a ha => if_pos ha)] at hRl
  refine bX12_names_17 _ _ _ _ _ _ _ _ (zvRd (d1 := 1) ob_98 (m_many g1) (by omega) ?_)
  rw [zi_le (by omega) (by omega), if_neg (by omega)]
  refine zcRd (d1 := 0) (m_has (by omega) (by omega)) (by omega) ?_
  rw [zB_if]
  have no : zfi u v f k b = false → ∀ c, zRn X d 0 0 MX12_names 47 [some (.ref 98), some (.int (nI s)), some (.int (nI s2)), some (.int (nI k)), some (.int (nI (zRw f k))), some (.int x), some (.int y), some (.int (nI b)), some (.int 0), some (.int c)] [] (zWd I (va_up A 113 D) t) Q := fun z c => by
    rw [z] at g
    refine bX12_names_47 _ _ _ _ _ _ _ _ _ _ ?_
    by_cases e : nI k ≤ c
    · rw [if_pos e]
      exact g
    · rw [if_neg e, if_pos rfl]
      exact g
  by_cases c1 : (zRw f k).testBit b = true
  · rw [if_pos c1]
    exact bX12_names_42 _ _ _ _ _ _ _ _ _ (no (by unfold zfi; rw [c1]; rfl) 0)
  · rw [if_neg c1]
    rw [Bool.not_eq_true] at c1
    refine bX12_names_42 _ _ _ _ _ _ _ _ _ ?_
    have efi : zfi u v f k b = zfo u v f k b := by
      unfold zfi
      rw [c1]
      rfl
    rw [efi] at g no
    refine zloopA (n := k) (p := fun c => decide (zlt u c k = zlt v (f c) b) && decide (zlt u k c = zlt v b (f c))) (R := fun c r => zfo u v f k b = r → zRn X d 0 0 MX12_names 47 [some (.ref 98), some (.int (nI s)), some (.int (nI s2)), some (.int (nI k)), some (.int (nI (zRw f k))), some (.int x), some (.int y), some (.int (nI b)), some (.int 1), some (.int (nI c))] [] (zWd I (va_up A 113 D) t) Q) ?_ (fun c hc r e1 e2 => ?_) rfl
    · intro z
      rw [z] at g
      refine bX12_names_47 _ _ _ _ _ _ _ _ _ _ ?_
      rw [if_pos (Int32.le_refl _)]
      exact g
    · intro z
      have hfc := hf c hc
      have ga : zaI (zWd I (va_up A 113 D) t) 113 (nI c) = some (nI (f c)) := by rw [ar_113.rd (by omega), zup_eq, hD c hc]
      refine bX12_names_47 _ _ _ _ _ _ _ _ _ _ ?_
      rw [zi_le (by omega) (by omega), if_neg (by omega), if_neg (by decide)]
      refine zvRd (d1 := 2) ob_98 (m_isBelow g1 (by omega) (by omega)) (by omega) ⟨_, fr_98_26.rd, _, ga, zvRd (d1 := 2) ob_98 (m_isBelow g2 (by omega) (by omega)) (by omega) ?_⟩
      rw [zif (show _ ↔ zlt u c k = zlt v (f c) b by rw [zB_eq])]
      by_cases d1 : zlt u c k = zlt v (f c) b
      · rw [if_pos d1]
        refine zvRd (d1 := 2) ob_98 (m_isBelow g1 (by omega) (by omega)) (by omega) ⟨_, fr_98_26.rd, _, ga, zvRd (d1 := 2) ob_98 (m_isBelow g2 (by omega) (by omega)) (by omega) ?_⟩
        rw [zif (show _ ↔ zlt u k c = zlt v b (f c) by rw [zB_eq])]
        by_cases d2 : zlt u k c = zlt v b (f c)
        · rw [if_pos d2]
          refine bX12_names_113 _ _ _ _ _ _ _ _ _ _ ?_
          rw [nI_1]
          exact e1 (by rw [decide_eq_true d1, decide_eq_true d2]; rfl) z
        · rw [if_neg d2]
          rw [e2 (by rw [decide_eq_false d2, Bool.and_false])] at z
          exact bX12_names_112 _ _ _ _ _ _ _ _ _ (bX12_names_113 _ _ _ _ _ _ _ _ _ _ (no z _))
      · rw [if_neg d1]
        rw [e2 (by rw [decide_eq_false d1, Bool.false_and])] at z
        exact bX12_names_112 _ _ _ _ _ _ _ _ _ (bX12_names_113 _ _ _ _ _ _ _ _ _ _ (no z _))
/-- what names() answers: how many ways, or whether there is one -/
def zNr_ (first : Bool) (m : Nat) : Nat := if first = true then (if 0 < m then 1 else 0) else m
theorem m_names (H : zMR A s n u R h) (H2 : zMR A s2 n v R2 h2) (first : Bool) : ∀ (j k : Nat) (f : Nat → Nat), k + j = n → (∀ c, c < k → f c < n) → ∀ D : Nat → Int32, (∀ c, c < k → D c = nI (f c)) → zEv X (3 + j) 0 0 MX12_names [.ref 98, .int (nI s), .int (nI s2), .int (nI k), .int (nI (zRw f k)), .int (zB first)] (zWd I (va_up A 113 D) t) (fun r w1 => r = some (.int (nI (zNr_ first (zNm n u v j k f)))) ∧ ∃ D', w1 = zWd I (va_up A 113 D') t ∧ ∀ c, c < k → D' c = D c) := by
  have h8 := H.2.1.1
  have h28 := z28 h8
  intro j
  induction j with
  | zero =>
    intro k f hk hf D hD
    have g1 := H.up (p := 113) (f := D) (by decide)
    refine eX12_names _ _ _ _ _ _ (bX12_names_0 _ _ _ _ _ _ (zvRd (d1 := 1) ob_98 (m_many g1) (by omega) ?_))
    rw [zi_eq (by omega) (by omega), if_pos (by omega)]
    refine ⟨?_, D, rfl, fun _ _ => rfl⟩
    cases first <;> rfl
  | succ j ih =>
    intro k f hk hf D hD
    have g1 := H.up (p := 113) (f := D) (by decide)
    refine eX12_names _ _ _ _ _ _ (bX12_names_0 _ _ _ _ _ _ (zvRd (d1 := 1) ob_98 (m_many g1) (by omega) ?_))
    rw [zi_eq (by omega) (by omega), if_neg (by omega), zNm_s]
    generalize hg : (fun b => if zfi u v f k b = true then zNm n u v j (k + 1) (va_up f k b) else 0) = g
    have key : ∀ b, b ≤ n → (first = true → zsm b g = 0) → ∀ D2 : Nat → Int32, (∀ c, c < k → D2 c = D c) → zRn X (3 + (j + 1)) 0 0 MX12_names 17 [some (.ref 98), some (.int (nI s)), some (.int (nI s2)), some (.int (nI k)), some (.int (nI (zRw f k))), some (.int (zB first)), some (.int (nI (zsm b g))), some (.int (nI b)), none, none] [] (zWd I (va_up A 113 D2) t) (fun r w1 => r = some (.int (nI (zNr_ first (zsm n g)))) ∧ ∃ D', w1 = zWd I (va_up A 113 D') t ∧ ∀ c, c < k → D' c = D c) := by
      refine zdown ?_ ?_
      · intro hz D2 hD2
        have g1 := H.up (p := 113) (f := D2) (by decide)
        refine bX12_names_17 _ _ _ _ _ _ _ _ (zvRd (d1 := 1) ob_98 (m_many g1) (by omega) ?_)
        rw [if_pos (Int32.le_refl _)]
        refine ⟨?_, D2, rfl, hD2⟩
        unfold zNr_
        cases first
        · rw [if_neg (by decide)]
        · rw [hz rfl]
          rfl
      · intro b hb ihb hz D2 hD2
        rw [zsm_s] at ihb
        refine m_nfit H H2 (by omega) (by omega) hb hf D2 (fun c hc => by rw [hD2 c hc]; exact hD c hc) ?_
        have next : g b = 0 → ∀ D3 : Nat → Int32, (∀ c, c < k → D3 c = D c) → zRn X (3 + (j + 1)) 0 0 MX12_names 173 [some (.ref 98), some (.int (nI s)), some (.int (nI s2)), some (.int (nI k)), some (.int (nI (zRw f k))), some (.int (zB first)), some (.int (nI (zsm b g))), some (.int (nI b)), none, none] [] (zWd I (va_up A 113 D3) t) (fun r w1 => r = some (.int (nI (zNr_ first (zsm n g)))) ∧ ∃ D', w1 = zWd I (va_up A 113 D') t ∧ ∀ c, c < k → D' c = D c) := fun z D3 hD3 => by
          rw [z, Nat.add_zero] at ihb
          refine bX12_names_173 _ _ _ _ _ _ _ _ ?_
          rw [nI_1]
          exact ihb hz D3 hD3
        refine bX12_names_121 _ _ _ _ _ _ _ _ _ ?_
        rw [zB_if]
        by_cases c : zfi u v f k b = true
        · rw [if_pos c]
          have egb : g b = zNm n u v j (k + 1) (va_up f k b) := by
            rw [← hg]
            exact if_pos c
          refine ⟨_, fr_98_26.rd, zWd I (va_up A 113 (upd D2 k (nI b))) t, ?_, ?_⟩
          · rw [ar_113.wr (by omega), zup_eq, bx_uu]
          · have em : zRw f k ||| 2 ^ b = zRw (va_up f k b) (k + 1) := by
              rw [zRw_s, zup_eq, zRw_cong (g := f) k (fun a ha => zup_ne (by omega))]
            have hcall := ih (k + 1) (va_up f k b) (by omega) (fun c hc => by
              by_cases e : c = k
              · rw [e, zup_eq]
                exact hb
              · rw [zup_ne e]
                exact hf c (by omega)) (upd D2 k (nI b)) (fun c hc => by
              by_cases e : c = k
              · rw [e, zup_eq, upd_eq]
              · rw [zup_ne e, upd_ne _ _ e, hD2 c (by omega)]
                exact hD c (by omega))
            rw [← em, ← egb] at hcall
            rw [zb_1 b (by omega), zb_or, nI_1]
            refine ⟨ob_98.is, _, _, ?_, hcall, ?_⟩
            · omega
            · rintro v' w1 ⟨rfl, D3, rfl, hD3⟩
              refine ⟨_, rfl, ?_⟩
              have hD4 : ∀ c, c < k → D3 c = D c := fun c hc => by
                rw [hD3 c (by omega), upd_ne _ _ (by omega)]
                exact hD2 c hc
              show if zB first = 0 then _ else _
              rw [zB_if]
              cases first
              · rw [if_neg (by decide)]
                have en : zNr_ false (g b) = g b := rfl
                rw [en, nI_add]
                refine bX12_names_173 _ _ _ _ _ _ _ _ ?_
                rw [nI_1]
                exact ihb (fun z => by cases z) D3 hD4
              · rw [if_pos rfl, hz rfl]
                by_cases c3 : 0 < g b
                · have en : zNr_ true (g b) = 1 := by
                    unfold zNr_
                    rw [if_pos rfl, if_pos c3]
                  have es : 0 < zsm n g := by
                    have := zsm_ge (g := g) hb
                    omega
                  have er : zNr_ true (zsm n g) = 1 := by
                    unfold zNr_
                    rw [if_pos rfl, if_pos es]
                  rw [en, if_neg (by decide), er]
                  exact ⟨rfl, D3, rfl, hD4⟩
                · have en : zNr_ true (g b) = 0 := by
                    unfold zNr_
                    rw [if_pos rfl, if_neg c3]
                  rw [en, if_pos (by decide)]
                  have nx := next (by omega) D3 hD4
                  rw [hz rfl] at nx
                  exact nx
        · rw [if_neg c]
          refine next ?_ D2 hD2
          rw [← hg]
          exact if_neg c
    exact key 0 (Nat.zero_le _) (fun _ => rfl) D (fun _ _ => rfl)
end ZLm2
section ZQl
variable {X : zX} {S : Nat → zSl} {x y : Int32}
theorem q_alike : zSame X MX11_alike MX12_alike [.int x, .int y] S := by
  rcases zslot S x with ⟨s, hs⟩ | hn
  · rcases zslot S y with ⟨s2, hs2⟩ | hn2
    · refine ⟨zB (decide ((S s).1 = (S s2).1) && decide (0 < zNm (S s).1 (S s).2.1 (S s2).2.1 (S s).1 0 (fun a => a))), fun I A t hC => zQy.mk 14 (by decide) ?_, fun I A t hM => zQy.mk 14 (by decide) ?_⟩
      · refine eX11_alike _ _ _ (bX11_alike_0 _ _ _ (zvO1 ob_0 (v_orderIn1 hC hs) (by decide) (zvO1 ob_0 (v_orderIn1 hC hs2) (by decide) ⟨_, fr_0_10.rd, zvI1 ob_96 (v_between (hC s hs.1).1 (hC s2 hs2.1).1) (by decide) ?_⟩)))
        rintro w1 ⟨D, rfl⟩
        exact zcRd (v_bit _) (by decide) (zQk.of ((zKp.refl I A).a (by decide)))
      · have h1 := m_ord1 (X := X) (I := I) (t := t) hM hs
        have h2 := m_ord1 (X := X) (I := I) (t := t) hM hs2
        obtain ⟨s3, rfl, s0⟩ := hs
        obtain ⟨s23, rfl, s20⟩ := hs2
        have H : zMR A s (S s).1 (S s).2.1 (S s).2.2.1 (S s).2.2.2 := hM s s3
        have H2 : zMR A s2 (S s2).1 (S s2).2.1 (S s2).2.2.1 (S s2).2.2.2 := hM s2 s23
        have h8 := H.2.1.1
        have h82 := H2.2.1.1
        refine eX12_alike _ _ _ (bX12_alike_0 _ _ _ (zvRd ob_98 h1 (by decide) ?_))
        rw [if_neg (by decide)]
        refine zvRd ob_98 h2 (by decide) ?_
        rw [if_neg (by decide)]
        refine zvRd ob_98 (m_many H) (by decide) (zvRd ob_98 (m_many H2) (by decide) ?_)
        rw [zi_eq (by omega) (by omega)]
        by_cases c : (S s).1 = (S s2).1
        · rw [if_pos c, decide_eq_true c, Bool.true_and]
          rw [← c] at H2
          have hcall := m_names (X := X) (I := I) (t := t) H H2 true (S s).1 0 (fun a => a) (by omega) (fun c hc => absurd hc (Nat.not_lt_zero _)) (A 113) (fun c hc => absurd hc (Nat.not_lt_zero _))
          rw [zup_self] at hcall
          refine ⟨ob_98.is, _, _, ?_, hcall, ?_⟩
          · omega
          · rintro v' w1 ⟨rfl, D3, rfl, -⟩
            refine ⟨_, rfl, ?_⟩
            show if nI _ ≤ nI 0 then _ else _
            have hk : ∀ r, zQk I A t r (some (.int r)) (zWd I (va_up A 113 D3) t) := fun r => zQk.of ((zKp.refl I A).a (by decide))
            by_cases c3 : 0 < zNm (S s).1 (S s).2.1 (S s2).2.1 (S s).1 0 (fun a => a)
            · have en : zNr_ true (zNm (S s).1 (S s).2.1 (S s2).2.1 (S s).1 0 (fun a => a)) = 1 := by
                unfold zNr_
                rw [if_pos rfl, if_pos c3]
              rw [en, if_neg (by decide), decide_eq_true c3]
              exact hk _
            · have en : zNr_ true (zNm (S s).1 (S s).2.1 (S s2).2.1 (S s).1 0 (fun a => a)) = 0 := by
                unfold zNr_
                rw [if_pos rfl, if_neg c3]
              rw [en, if_pos (by decide), decide_eq_false c3]
              exact hk _
        · rw [if_neg c, decide_eq_false c, Bool.false_and]
          exact zQk.id _ _ _ _
    · refine ⟨-2, fun I A t hC => zQy.mk 14 (by decide) ?_, fun I A t hM => zQy.mk 14 (by decide) ?_⟩
      · exact eX11_alike _ _ _ (bX11_alike_0 _ _ _ (zvO1 ob_0 (v_orderIn1 hC hs) (by decide) (zvO0 ob_0 (v_orderIn0 hC hn2) (by decide) (zQk.id _ _ _ _))))
      · refine eX12_alike _ _ _ (bX12_alike_0 _ _ _ (zvRd ob_98 (m_ord1 hM hs) (by decide) ?_))
        rw [if_neg (by decide)]
        refine zvRd ob_98 (m_ord0 hM hn2) (by decide) ?_
        rw [if_pos rfl]
        exact zQk.id _ _ _ _
  · refine ⟨-2, fun I A t hC => zQy.mk 14 (by decide) ?_, fun I A t hM => zQy.mk 14 (by decide) ?_⟩
    · rcases zslot S y with ⟨s2, hs2⟩ | hn2
      · exact eX11_alike _ _ _ (bX11_alike_0 _ _ _ (zvO0 ob_0 (v_orderIn0 hC hn) (by decide) (zvO1 ob_0 (v_orderIn1 hC hs2) (by decide) (zQk.id _ _ _ _))))
      · exact eX11_alike _ _ _ (bX11_alike_0 _ _ _ (zvO0 ob_0 (v_orderIn0 hC hn) (by decide) (zvO0 ob_0 (v_orderIn0 hC hn2) (by decide) (zQk.id _ _ _ _))))
    · refine eX12_alike _ _ _ (bX12_alike_0 _ _ _ (zvRd ob_98 (m_ord0 hM hn) (by decide) ?_))
      rw [if_pos rfl]
      exact zQk.id _ _ _ _
theorem q_selves : zSame X MX11_selves MX12_selves [.int x] S := by
  rcases zslot S x with ⟨s, hs⟩ | hn
  · refine ⟨nI (zNm (S s).1 (S s).2.1 (S s).2.1 (S s).1 0 (fun a => a)), fun I A t hC => zQy.mk 14 (by decide) ?_, fun I A t hM => zQy.mk 14 (by decide) ?_⟩
    · refine eX11_selves _ _ (bX11_selves_0 _ _ (zvO1 ob_0 (v_orderIn1 hC hs) (by decide) ⟨_, fr_0_10.rd, zvI1 ob_96 (v_waysOf (hC s hs.1).1) (by decide) ?_⟩))
      rintro w1 ⟨D, rfl⟩
      exact zQk.of ((zKp.refl I A).a (by decide))
    · have h1 := m_ord1 (X := X) (I := I) (t := t) hM hs
      obtain ⟨s3, rfl, s0⟩ := hs
      have H : zMR A s (S s).1 (S s).2.1 (S s).2.2.1 (S s).2.2.2 := hM s s3
      have h8 := H.2.1.1
      refine eX12_selves _ _ (bX12_selves_0 _ _ (zvRd ob_98 h1 (by decide) ?_))
      rw [if_neg (by decide)]
      have hcall := m_names (X := X) (I := I) (t := t) H H false (S s).1 0 (fun a => a) (by omega) (fun c hc => absurd hc (Nat.not_lt_zero _)) (A 113) (fun c hc => absurd hc (Nat.not_lt_zero _))
      rw [zup_self] at hcall
      refine ⟨ob_98.is, _, _, ?_, hcall, ?_⟩
      · omega
      · rintro v' w1 ⟨rfl, D3, rfl, -⟩
        exact ⟨_, rfl, zQk.of ((zKp.refl I A).a (by decide))⟩
  · refine ⟨-2, fun I A t hC => zQy.mk 14 (by decide) ?_, fun I A t hM => zQy.mk 14 (by decide) ?_⟩
    · exact eX11_selves _ _ (bX11_selves_0 _ _ (zvO0 ob_0 (v_orderIn0 hC hn) (by decide) (zQk.id _ _ _ _)))
    · refine eX12_selves _ _ (bX12_selves_0 _ _ (zvRd ob_98 (m_ord0 hM hn) (by decide) ?_))
      rw [if_pos rfl]
      exact zQk.id _ _ _ _
end ZQl
