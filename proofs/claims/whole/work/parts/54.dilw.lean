/-! ===== fewest chains: as many as things can be free of one another; the search finds them ===== -/
/-- things of unlike colours below k are at most k -/
theorem zpig : ∀ (k T : Nat) (f : Nat → Nat), T < 256 → (∀ x, T.testBit x = true → f x < k) → (∀ x y, T.testBit x = true → T.testBit y = true → f x = f y → x = y) → zpc T ≤ k
  | 0, T, f, hT, h1, h2 => by
    have : T = 0 := zeq0.mpr (fun i => by
      cases hi : T.testBit i
      · rfl
      · exact absurd (h1 i hi) (Nat.not_lt_zero _))
    rw [this, zpc0]
    exact Nat.le_refl _
  | k + 1, T, f, hT, h1, h2 => by
    by_cases h : ∃ x, T.testBit x = true ∧ f x = k
    · obtain ⟨x, hx, e⟩ := h
      have hx8 : x < 8 := by
        rcases Nat.lt_or_ge x 8 with q | q
        · exact q
        · rw [zbit_hi (n := 8) hT q] at hx
          cases hx
      have h3 := (zpc_out T hT x hx8).1 hx
      have h4 : zdf T (2 ^ x) < 256 := zdf_lt (n := 8) hT
      have bit : ∀ y, (zdf T (2 ^ x)).testBit y = true → T.testBit y = true ∧ y ≠ x := fun y hy => by
        rw [zdf_bit, Nat.testBit_two_pow] at hy
        simp at hy
        exact ⟨hy.1, fun q => hy.2 q.symm⟩
      have h5 := zpig k (zdf T (2 ^ x)) f h4 (fun y hy => by
        obtain ⟨b1, b2⟩ := bit y hy
        have := h1 y b1
        have h6 : f y ≠ k := fun q => b2 (h2 y x b1 hx (q.trans e.symm))
        omega) (fun y z hy hz => h2 y z (bit y hy).1 (bit z hz).1)
      omega
    · have h5 := zpig k T f hT (fun y hy => by
        have := h1 y hy
        have h6 : f y ≠ k := fun q => h ⟨y, hy, q⟩
        omega) h2
      omega
theorem zhit {k T : Nat} {f : Nat → Nat} (hT : T < 256) (h1 : ∀ x, T.testBit x = true → f x < k) (h2 : ∀ x y, T.testBit x = true → T.testBit y = true → f x = f y → x = y) (h3 : zpc T = k) {i : Nat} (hi : i < k) : ∃ x, T.testBit x = true ∧ f x = i := by
  refine Classical.byContradiction (fun hn => ?_)
  have h4 := zpig (k - 1) T (fun x => if f x = k - 1 then i else f x) hT (fun x hx => by
    have := h1 x hx
    have h5 : f x ≠ i := fun q => hn ⟨x, hx, q⟩
    show (if f x = k - 1 then i else f x) < k - 1
    split <;> omega) (fun x y hx hy e => by
    have h5 : f x ≠ i := fun q => hn ⟨x, hx, q⟩
    have h6 : f y ≠ i := fun q => hn ⟨y, hy, q⟩
    have e : (if f x = k - 1 then i else f x) = (if f y = k - 1 then i else f y) := e
    refine h2 x y hx hy ?_
    split at e <;> split at e <;> omega)
  omega
theorem zmaxP {P : Nat → Prop} (h0 : P 0) : ∀ m, (∀ k, P k → k ≤ m) → ∃ k, P k ∧ ∀ j, P j → j ≤ k
  | 0, h => ⟨0, h0, h⟩
  | m + 1, h => by
    by_cases hm : P (m + 1)
    · exact ⟨m + 1, hm, h⟩
    · exact zmaxP h0 m (fun k hk => by
        have := h k hk
        have : k ≠ m + 1 := fun e => hm (e ▸ hk)
        omega)
theorem zmaxE {P : Nat → Prop} (g : Nat → Nat) (hg : ∀ x, g x ≤ 8) (h : ∃ x, P x) : ∃ x, P x ∧ ∀ y, P y → g y ≤ g x := by
  obtain ⟨k, ⟨x, hx, hk⟩, h2⟩ := zmaxP (P := fun k => ∃ x, P x ∧ k ≤ g x) (by
    obtain ⟨x, hx⟩ := h
    exact ⟨x, hx, Nat.zero_le _⟩) 8 (fun k ⟨x, _, hk⟩ => Nat.le_trans hk (hg x))
  exact ⟨x, hx, fun y hy => Nat.le_trans (h2 (g y) ⟨y, hy, Nat.le_refl _⟩) hk⟩
theorem zRw_pcI {f : Nat → Nat} : ∀ k, (∀ i, i < k → f i < 8) → (∀ i j, i < k → j < k → f i = f j → i = j) → zRw f k < 256 ∧ zpc (zRw f k) = k
  | 0, _, _ => ⟨by rw [zRw_z]; decide, by rw [zRw_z, zpc0]⟩
  | k + 1, h1, h2 => by
    obtain ⟨i1, i2⟩ := zRw_pcI k (fun i hi => h1 i (by omega)) (fun i j hi hj => h2 i j (by omega) (by omega))
    have h3 := h1 k (by omega)
    have hb : (zRw f k).testBit (f k) = false := by
      cases hc : (zRw f k).testBit (f k)
      · rfl
      · obtain ⟨j, hj, e⟩ := (zRw_bit f (f k) k).mp hc
        have := h2 j k (by omega) (by omega) e
        omega
    refine ⟨?_, ?_⟩
    · rw [zRw_s]
      exact zor_lt (n := 8) i1 h3
    · rw [zRw_s, (zpc_out _ i1 (f k) h3).2 hb, i2]
def zAC (u : Nat → Nat) (T : Nat) : Prop := ∀ c d, T.testBit c = true → T.testBit d = true → zlt u c d = false
def zCh (u : Nat → Nat) (s w : Nat) (f : Nat → Nat) : Prop := (∀ a, s.testBit a = true → f a < w) ∧ ∀ a b, s.testBit a = true → s.testBit b = true → f a = f b → a = b ∨ zlt u a b = true ∨ zlt u b a = true
theorem zsb_t {a b c : Nat} (h : zsb a b) (g : zsb b c) : zsb a c := fun i hi => g i (h i hi)
theorem zsb_lt {a b n : Nat} (h : zsb a b) (hb : b < 2 ^ n) : a < 2 ^ n := zlt_of (fun i hi => by
  cases hc : a.testBit i
  · rfl
  · have := h i hc
    rw [zbit_hi hb hi] at this
    cases this)
theorem zdil {n : Nat} {u : Nat → Nat} (h : zPo n u) : ∀ (m s w : Nat), s < 2 ^ n → zpc s ≤ m → (∀ T, zsb T s → zAC u T → zpc T ≤ w) → ∃ f, zCh u s w f := by
  have h28 := z28 h.1
  have up : ∀ x y, zlt u x y = true → zpc (u x) < zpc (u y) := fun x y hxy => (zTr.u h).dn hxy
  intro m
  induction m with
  | zero =>
    intro s w hs hp hw
    have s0 : s = 0 := by
      refine Classical.byContradiction (fun hne => ?_)
      obtain ⟨i, hi⟩ := zne0.mp hne
      have := zpc_lt (a := 0) (b := s) (by decide) (by omega) (fun j hj => by simp at hj) hi (by simp)
      omega
    refine ⟨fun _ => 0, fun a ha => ?_, fun a b ha => ?_⟩
    · rw [s0] at ha
      simp at ha
    · rw [s0] at ha
      simp at ha
  | succ m ih =>
    intro s w hs hp hw
    by_cases s0 : s = 0
    · refine ⟨fun _ => 0, fun a ha => ?_, fun a b ha => ?_⟩
      · rw [s0] at ha
        simp at ha
      · rw [s0] at ha
        simp at ha
    obtain ⟨a, ha, hmax⟩ := zmaxE (P := fun x => s.testBit x = true) (fun x => zpc (u x)) (fun x => zpc8 _) (zne0.mp s0)
    have amax : ∀ y, s.testBit y = true → zlt u a y = false := fun y hy => by
      cases hc : zlt u a y
      · rfl
      · have h1 := up a y hc
        have h2 := hmax y hy
        have h2 : zpc (u y) ≤ zpc (u a) := h2
        omega
    have han : a < n := by
      rcases Nat.lt_or_ge a n with q | q
      · exact q
      · rw [zbit_hi hs q] at ha
        cases ha
    have h8 := h.1
    have hpc := (zpc_out s (by omega) a (by omega)).1 ha
    generalize hs' : zdf s (2 ^ a) = s' at *
    have bit : ∀ y, s'.testBit y = true ↔ (s.testBit y = true ∧ y ≠ a) := fun y => by
      rw [← hs', zdf_bit, Nat.testBit_two_pow]
      simp
      intro _
      exact ⟨fun q e => q e.symm, fun q e => q e.symm⟩
    have ss : zsb s' s := fun i hi => ((bit i).mp hi).1
    have sl : s' < 2 ^ n := zsb_lt ss hs
    obtain ⟨k, ⟨T0, t1, t2, t3⟩, hk⟩ := zmaxP (P := fun k => ∃ T, zsb T s' ∧ zAC u T ∧ zpc T = k) ⟨0, fun i hi => by simp at hi, fun c d hc => by simp at hc, zpc0⟩ 8 (fun k ⟨T, _, _, e⟩ => e ▸ zpc8 T)
    have hkw : k ≤ w := by
      have := hw T0 (zsb_t t1 ss) t2
      omega
    obtain ⟨f, f1, f2⟩ := ih s' k sl (by omega) (fun T hT hA => hk _ ⟨T, hT, hA, rfl⟩)
    have hit : ∀ T, zsb T s' → zAC u T → zpc T = k → ∀ i, i < k → ∃ x, T.testBit x = true ∧ f x = i := fun T g1 g2 g3 i hi => by
      have := zsb_lt g1 sl
      refine zhit (by omega) (fun x hx => f1 x (g1 x hx)) (fun x y hx hy e => ?_) g3 hi
      rcases f2 x y (g1 x hx) (g1 y hy) e with q | q | q
      · exact q
      · rw [g2 x y hx hy] at q
        cases q
      · rw [g2 y x hy hx] at q
        cases q
    have good : ∀ i, ∃ x, i < k → ((∃ T, zsb T s' ∧ zAC u T ∧ zpc T = k ∧ T.testBit x = true) ∧ f x = i) ∧ ∀ y, (∃ T, zsb T s' ∧ zAC u T ∧ zpc T = k ∧ T.testBit y = true) → f y = i → y = x ∨ zlt u y x = true := fun i => by
      by_cases hi : i < k
      · obtain ⟨x0, hx0, e0⟩ := hit T0 t1 t2 t3 i hi
        obtain ⟨x, hx, hx2⟩ := zmaxE (P := fun x => (∃ T, zsb T s' ∧ zAC u T ∧ zpc T = k ∧ T.testBit x = true) ∧ f x = i) (fun x => zpc (u x)) (fun x => zpc8 _) ⟨x0, ⟨T0, t1, t2, t3, hx0⟩, e0⟩
        refine ⟨x, fun _ => ⟨hx, fun y hy ey => ?_⟩⟩
        have h1 : zpc (u y) ≤ zpc (u x) := hx2 y ⟨hy, ey⟩
        obtain ⟨⟨Tx, x1, -, -, x4⟩, ex⟩ := hx
        obtain ⟨Ty, y1, -, -, y4⟩ := hy
        rcases f2 y x (y1 y y4) (x1 x x4) (ey.trans ex.symm) with q | q | q
        · exact Or.inl q
        · exact Or.inr q
        · have := up x y q
          omega
      · exact ⟨0, fun q => absurd q hi⟩
    generalize hAd : (fun i => (good i).choose) = A
    have hA : ∀ i, i < k → ((∃ T, zsb T s' ∧ zAC u T ∧ zpc T = k ∧ T.testBit (A i) = true) ∧ f (A i) = i) ∧ ∀ y, (∃ T, zsb T s' ∧ zAC u T ∧ zpc T = k ∧ T.testBit y = true) → f y = i → y = A i ∨ zlt u y (A i) = true := fun i hi => by
      rw [← hAd]
      exact (good i).choose_spec hi
    have As : ∀ i, i < k → s'.testBit (A i) = true := fun i hi => by
      obtain ⟨⟨⟨T, g1, -, -, g4⟩, -⟩, -⟩ := hA i hi
      exact g1 _ g4
    have fre : ∀ i j, i < k → j < k → i ≠ j → zlt u (A j) (A i) = false := fun i j hi hj hij => by
      obtain ⟨⟨⟨T, g1, g2, g3, g4⟩, e1⟩, -⟩ := hA i hi
      obtain ⟨x, hx, ex⟩ := hit T g1 g2 g3 j hj
      cases hc : zlt u (A j) (A i)
      · rfl
      · have hl : zlt u x (A i) = true := by
          rcases (hA j hj).2 x ⟨T, g1, g2, g3, hx⟩ ex with q | q
          · rw [q]
            exact hc
          · exact h.2.2.2.2 _ _ _ q hc
        rw [g2 x (A i) hx g4] at hl
        cases hl
    by_cases hc : ∃ i, i < k ∧ zlt u (A i) a = true
    · obtain ⟨i, hi, hia⟩ := hc
      generalize hs2 : zmk n (fun z => s'.testBit z && !(decide (f z = i) && (decide (z = A i) || zlt u z (A i)))) = s2
      have bit2 : ∀ z, s2.testBit z = true ↔ (s'.testBit z = true ∧ ¬ (f z = i ∧ (z = A i ∨ zlt u z (A i) = true))) := fun z => by
        rw [← hs2, zmk_bit]
        constructor
        · intro q
          simp at q
          refine ⟨q.2.1, fun ⟨e1, e2⟩ => ?_⟩
          rcases q.2.2 with q0 | ⟨q1, q2⟩
          · exact q0 e1
          · rcases e2 with e2 | e2
            · exact q1 e2
            · rw [q2] at e2
              cases e2
        · rintro ⟨q1, q2⟩
          have hz : z < n := by
            rcases Nat.lt_or_ge z n with q | q
            · exact q
            · rw [zbit_hi sl q] at q1
              cases q1
          simp only [hz, q1, decide_true, Bool.true_and, Bool.not_eq_true']
          cases hd : decide (f z = i)
          · rfl
          · rw [Bool.true_and]
            cases hd2 : (decide (z = A i) || zlt u z (A i))
            · rfl
            · refine absurd ⟨of_decide_eq_true hd, ?_⟩ q2
              rw [Bool.or_eq_true, decide_eq_true_eq] at hd2
              exact hd2
      have s2s : zsb s2 s' := fun z hz => ((bit2 z).mp hz).1
      have s2l := zsb_lt s2s sl
      have hm2 := zpc_mono (a := s2) (b := s') (by omega) (by omega) s2s
      obtain ⟨g, g1, g2⟩ := ih s2 (k - 1) s2l (by omega) (fun T hT hTA => by
        have h1 := hk _ ⟨T, zsb_t hT s2s, hTA, rfl⟩
        rcases Nat.lt_or_ge (zpc T) k with q | q
        · omega
        · obtain ⟨x, hx, ex⟩ := hit T (zsb_t hT s2s) hTA (by omega) i hi
          exact absurd ⟨ex, (hA i hi).2 x ⟨T, zsb_t hT s2s, hTA, by omega, hx⟩ ex⟩ ((bit2 x).mp (hT x hx)).2)
      have out : ∀ x, s.testBit x = true → s2.testBit x = false → x = a ∨ (s'.testBit x = true ∧ f x = i ∧ zlt u x a = true) := fun x hx hx2 => by
        by_cases e : x = a
        · exact Or.inl e
        · have hx' := (bit x).mpr ⟨hx, e⟩
          have h1 : f x = i ∧ (x = A i ∨ zlt u x (A i) = true) := by
            refine Classical.byContradiction (fun q => ?_)
            rw [(bit2 x).mpr ⟨hx', q⟩] at hx2
            cases hx2
          refine Or.inr ⟨hx', h1.1, ?_⟩
          rcases h1.2 with q | q
          · rw [q]
            exact hia
          · exact h.2.2.2.2 _ _ _ q hia
      refine ⟨fun z => if s2.testBit z = true then g z else k - 1, fun z hz => ?_, fun x y hx hy e => ?_⟩
      · show (if s2.testBit z = true then g z else k - 1) < w
        split
        · rename_i q
          have := g1 z q
          omega
        · omega
      · have e : (if s2.testBit x = true then g x else k - 1) = (if s2.testBit y = true then g y else k - 1) := e
        cases cx : s2.testBit x
        · cases cy : s2.testBit y
          · rcases out x hx cx with q | ⟨q1, q2, q3⟩
            · rcases out y hy cy with r | ⟨r1, r2, r3⟩
              · exact Or.inl (q.trans r.symm)
              · rw [q]
                exact Or.inr (Or.inr r3)
            · rcases out y hy cy with r | ⟨r1, r2, r3⟩
              · rw [r]
                exact Or.inr (Or.inl q3)
              · exact f2 x y q1 r1 (q2.trans r2.symm)
          · rw [cx, cy, if_neg (by decide), if_pos rfl] at e
            have := g1 y cy
            omega
        · cases cy : s2.testBit y
          · rw [cx, cy, if_pos rfl, if_neg (by decide)] at e
            have := g1 x cx
            omega
          · rw [cx, cy, if_pos rfl, if_pos rfl] at e
            exact g2 x y cx cy e
    · have nol : ∀ i, i < k → zlt u (A i) a = false := fun i hi => by
        cases q : zlt u (A i) a
        · rfl
        · exact absurd ⟨i, hi, q⟩ hc
      have An : ∀ i, i < k → A i < n := fun i hi => by
        rcases Nat.lt_or_ge (A i) n with q | q
        · exact q
        · have := As i hi
          rw [zbit_hi sl q] at this
          cases this
      have Ai : ∀ i j, i < k → j < k → A i = A j → i = j := fun i j hi hj e => by
        have e1 := (hA i hi).1.2
        have e2 := (hA j hj).1.2
        rw [e] at e1
        omega
      obtain ⟨r1, r2⟩ := zRw_pcI (f := A) k (fun i hi => by have := An i hi; omega) Ai
      have ra : (zRw A k).testBit a = false := by
        cases q : (zRw A k).testBit a
        · rfl
        · obtain ⟨j, hj, e⟩ := (zRw_bit A a k).mp q
          exact absurd e ((bit (A j)).mp (As j hj)).2
      have r3 := (zpc_out _ r1 a (by omega)).2 ra
      have bit3 : ∀ x, (zRw A k ||| 2 ^ a).testBit x = true → x = a ∨ ∃ j, j < k ∧ A j = x := fun x hx => by
        rw [Nat.testBit_or, Nat.testBit_two_pow, Bool.or_eq_true, decide_eq_true_eq] at hx
        rcases hx with q | q
        · exact Or.inr ((zRw_bit A x k).mp q)
        · exact Or.inl q.symm
      have hk1 := hw (zRw A k ||| 2 ^ a) (fun x hx => by
        rcases bit3 x hx with q | ⟨j, hj, q⟩
        · rw [q]
          exact ha
        · rw [← q]
          exact ss _ (As j hj)) (fun c d hcc hdd => by
        rcases bit3 c hcc with q | ⟨j, hj, q⟩
        · rcases bit3 d hdd with r | ⟨l, hl, r⟩
          · rw [q, r]
            exact h.2.2.2.1 a
          · rw [q, ← r]
            exact amax _ (ss _ (As l hl))
        · rcases bit3 d hdd with r | ⟨l, hl, r⟩
          · rw [r, ← q]
            exact nol j hj
          · rw [← q, ← r]
            by_cases e : l = j
            · rw [e]
              exact h.2.2.2.1 _
            · exact fre l j hl hj e)
      rw [r3, r2] at hk1
      refine ⟨fun z => if z = a then k else f z, fun z hz => ?_, fun x y hx hy e => ?_⟩
      · show (if z = a then k else f z) < w
        split
        · omega
        · rename_i q
          have := f1 z ((bit z).mpr ⟨hz, q⟩)
          omega
      · have e : (if x = a then k else f x) = (if y = a then k else f y) := e
        by_cases ex : x = a
        · by_cases ey : y = a
          · exact Or.inl (ex.trans ey.symm)
          · rw [if_pos ex, if_neg ey] at e
            have := f1 y ((bit y).mpr ⟨hy, ey⟩)
            omega
        · by_cases ey : y = a
          · rw [if_neg ex, if_pos ey] at e
            have := f1 x ((bit x).mpr ⟨hx, ex⟩)
            omega
          · rw [if_neg ex, if_neg ey] at e
            exact f2 x y ((bit x).mpr ⟨hx, ex⟩) ((bit y).mpr ⟨hy, ey⟩) e
theorem zwiF_max (n : Nat) (u : Nat → Nat) : ∀ k T, T ≤ k → zan n u T = true → zpc T ≤ zpc (zwiF n u k)
  | 0, T, hT, _ => by
    have : T = 0 := by omega
    subst this
    exact Nat.le_refl _
  | k + 1, T, hT, ha => by
    show zpc T ≤ zpc (if zpc (zwiF n u k) < zpc (k + 1) ∧ zan n u (k + 1) = true then k + 1 else zwiF n u k)
    rcases Nat.lt_or_ge k T with q | q
    · have : T = k + 1 := by omega
      subst this
      by_cases c : zpc (zwiF n u k) < zpc (k + 1) ∧ zan n u (k + 1) = true
      · rw [if_pos c]
        exact Nat.le_refl _
      · rw [if_neg c]
        rcases Nat.lt_or_ge (zpc (zwiF n u k)) (zpc (k + 1)) with r | r
        · exact absurd ⟨r, ha⟩ c
        · exact r
    · have ih := zwiF_max n u k T q ha
      split
      · omega
      · exact ih
theorem zdil_full {n : Nat} {u : Nat → Nat} (h : zPo n u) : ∃ f, zCh u (2 ^ n - 1) (zpc (zwi n u)) f := by
  have hp := Nat.one_le_two_pow (n := n)
  refine zdil h _ (2 ^ n - 1) _ (by omega) (Nat.le_refl _) (fun T hT hA => ?_)
  have hl := zsb_lt hT (show 2 ^ n - 1 < 2 ^ n by omega)
  refine zwiF_max n u _ T (by omega) ?_
  cases hz : zan n u T
  · obtain ⟨c, d, h1, h2, h3⟩ := (zan_no h hl).mp hz
    rw [hA c d h1 h2] at h3
    cases h3
  · rfl
/-- the first of F c, F (c + 1) .. that is one -/
def zfs {α : Type} (F : Nat → Option α) : Nat → Nat → Option α
  | 0, _ => none
  | j + 1, c => match F c with
    | some x => some x
    | none => zfs F j (c + 1)
theorem zfs_some {α : Type} {F : Nat → Option α} : ∀ (j c0 : Nat), (∃ c, c0 ≤ c ∧ c < c0 + j ∧ F c ≠ none) → zfs F j c0 ≠ none
  | 0, c0, ⟨c, h1, h2, _⟩ => by omega
  | j + 1, c0, ⟨c, h1, h2, h3⟩ => by
    show (match F c0 with | some x => some x | none => zfs F j (c0 + 1)) ≠ none
    cases hF : F c0 with
    | some x => simp
    | none =>
      have : c ≠ c0 := fun e => h3 (e ▸ hF)
      exact zfs_some j (c0 + 1) ⟨c, by omega, by omega, h3⟩
theorem zfs_y {α : Type} {F : Nat → Option α} {j c : Nat} {x : α} (h : F c = some x) : zfs F (j + 1) c = some x := by
  show (match F c with | some x => some x | none => zfs F j (c + 1)) = some x
  rw [h]
theorem zfs_n {α : Type} {F : Nat → Option α} {j c : Nat} (h : F c = none) : zfs F (j + 1) c = zfs F j (c + 1) := by
  show (match F c with | some x => some x | none => zfs F j (c + 1)) = _
  rw [h]
/-- a fits into chain c -/
def zft (u : Nat → Nat) (f : Nat → Nat) (a c : Nat) : Bool := zall a (fun b => !decide (f b = c) || !zfe u a b)
def zdv (u : Nat → Nat) (m : Nat) : Nat → Nat → Nat → (Nat → Nat) → Option (Nat → Nat)
  | 0, _, _, f => some f
  | k + 1, a, g, f => zfs (fun c => if zft u f a c = true then zdv u m k (a + 1) (max g (c + 1)) (va_up f a c) else none) (min (g + 1) m) 0
theorem zdv_s (u : Nat → Nat) (m k a g : Nat) (f : Nat → Nat) : zdv u m (k + 1) a g f = zfs (fun c => if zft u f a c = true then zdv u m k (a + 1) (max g (c + 1)) (va_up f a c) else none) (min (g + 1) m) 0 := rfl
theorem zdv_ok {n : Nat} {u : Nat → Nat} {m : Nat} : ∀ (k a g : Nat) (f F : Nat → Nat), a + k = n → (∀ b, b < a → F b = f b) → (∀ b, b < a → f b < g) → (∀ b, b < n → F b < m) → (∀ b c, b < n → c < n → F b = F c → zfe u b c = false) → zdv u m k a g f ≠ none
  | 0, a, g, f, F, _, _, _, _, _ => by
    show some f ≠ none
    simp
  | k + 1, a, g, f, F, hk, h1, h2, h3, h4 => by
    rw [zdv_s]
    have go : ∀ F : Nat → Nat, (∀ b, b < a → F b = f b) → (∀ b, b < n → F b < m) → (∀ b c, b < n → c < n → F b = F c → zfe u b c = false) → F a ≤ g → zfs (fun c => if zft u f a c = true then zdv u m k (a + 1) (max g (c + 1)) (va_up f a c) else none) (min (g + 1) m) 0 ≠ none := fun F h1 h3 h4 hg => by
      have hm := h3 a (by omega)
      refine zfs_some _ _ ⟨F a, Nat.zero_le _, by omega, ?_⟩
      have hf : zft u f a (F a) = true := zall_iff.mpr (fun b hb => by
        by_cases e : f b = F a
        · rw [h4 a b (by omega) (by omega) (by rw [h1 b hb]; exact e.symm)]
          simp
        · simp [e])
      show (if zft u f a (F a) = true then _ else none) ≠ none
      rw [if_pos hf]
      refine zdv_ok k (a + 1) _ _ F (by omega) (fun b hb => ?_) (fun b hb => ?_) h3 h4
      · by_cases e : b = a
        · rw [e, zup_eq]
        · rw [zup_ne e]
          exact h1 b (by omega)
      · by_cases e : b = a
        · rw [e, zup_eq]
          omega
        · rw [zup_ne e]
          have := h2 b (by omega)
          omega
    rcases Nat.lt_or_ge g (F a) with q | q
    · have hFa := h3 a (by omega)
      have sw : ∀ b c, (if F b = g then F a else if F b = F a then g else F b) = (if F c = g then F a else if F c = F a then g else F c) → F b = F c := fun b c e => by
        split at e <;> split at e <;> (try split at e) <;> (try split at e) <;> omega
      refine go (fun b => if F b = g then F a else if F b = F a then g else F b) (fun b hb => ?_) (fun b hb => ?_) (fun b c hb hc e => h4 b c hb hc (sw b c e)) ?_
      · have e1 := h1 b hb
        have e2 := h2 b hb
        show (if F b = g then F a else if F b = F a then g else F b) = f b
        rw [if_neg (by omega), if_neg (by omega)]
        exact e1
      · have e1 := h3 b hb
        show (if F b = g then F a else if F b = F a then g else F b) < m
        split
        · exact hFa
        · split <;> omega
      · show (if F a = g then F a else if F a = F a then g else F a) ≤ g
        rw [if_neg (by omega), if_pos rfl]
        exact Nat.le_refl _
    · exact go F h1 h3 h4 q
/-- in which chain each is -/
def zprt (n : Nat) (u : Nat → Nat) : Nat → Nat := (zdv u (zpc (zwi n u)) n 0 0 (fun _ => 0)).getD (fun _ => 0)
theorem zprt_ok {n : Nat} {u : Nat → Nat} (h : zPo n u) : zdv u (zpc (zwi n u)) n 0 0 (fun _ => 0) = some (zprt n u) := by
  obtain ⟨F, F1, F2⟩ := zdil_full h
  have hf : ∀ b, b < n → (2 ^ n - 1).testBit b = true := fun b hb => by
    rw [Nat.testBit_two_pow_sub_one]
    exact decide_eq_true hb
  have h1 := zdv_ok (n := n) (u := u) (m := zpc (zwi n u)) n 0 0 (fun _ => 0) F (by omega) (fun b hb => absurd hb (Nat.not_lt_zero _)) (fun b hb => absurd hb (Nat.not_lt_zero _)) (fun b hb => F1 b (hf b hb)) (fun b c hb hc e => by
    unfold zfe
    rcases F2 b c (hf b hb) (hf c hc) e with q | q | q
    · simp [q]
    · simp [q]
    · simp [q])
  unfold zprt
  cases hz : zdv u (zpc (zwi n u)) n 0 0 (fun _ => 0) with
  | none => exact absurd hz h1
  | some f => rfl
