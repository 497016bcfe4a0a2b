/-! ===== the world of both objects: by int fields I (place, field) and int arrays A (place, index); t: what was made later ===== -/
def zOC (q r : Nat) (i : Nat → Int32) (a : Nat → Int32) : zC := match r with
  | 0 => zO 5 [.ref (q + 1), .ref (q + 2), .ref (q + 3), .int (i 3)]
  | 1 => zI 8 a
  | 2 => zI 8 a
  | 3 => zO 8 [.ref (q + 4), .int (i 1)]
  | _ => zI 48 a
def zCel (p : Nat) (i : Nat → Int32) (a : Nat → Int32) : zC :=
  if 2 ≤ p ∧ p < 22 then zOC (2 + (p - 2) / 5 * 5) ((p - 2) % 5) i a
  else if 25 ≤ p ∧ p < 75 then zOC (25 + (p - 25) / 5 * 5) ((p - 25) % 5) i a
  else match p with
  | 0 => zO 10 [.ref 1, .ref 17, .ref 22, .ref 75, .ref 77, .ref 79, .ref 80, .ref 84, .ref 87, .ref 89, .ref 96]
  | 1 => zR 3 (fun k => if k < 3 then some (2 + 5 * k) else none)
  | 22 => zO 6 [.ref 23, .ref 24, .int (i 2), .int (i 3)]
  | 23 => zR 10 (fun k => if k < 10 then some (25 + 5 * k) else none)
  | 24 => zI 10 a
  | 75 => zO 0 [.ref 76, .int (i 1)]
  | 76 => zI 400 a
  | 77 => zO 0 [.ref 78, .int (i 1)]
  | 78 => zI 160 a
  | 79 => zO 7 [.ref 75, .int (i 1), .int (i 2), .int (i 3), .int (i 4), .int (i 5)]
  | 80 => zO 1 [.ref 81, .ref 82, .ref 83]
  | 81 => zI 8 a
  | 82 => zI 8 a
  | 83 => zI 8 a
  | 84 => zO 4 [.ref 85, .ref 86]
  | 85 => zI 256 a
  | 86 => zI 256 a
  | 87 => zO 2 [.ref 88]
  | 88 => zI 2048 a
  | 89 => zO 9 [.ref 90, .ref 91, .ref 92, .ref 93, .ref 94, .ref 95, .int (i 6)]
  | 90 => zI 56 a
  | 91 => zI 56 a
  | 92 => zI 56 a
  | 93 => zI 57 a
  | 94 => zI 32 a
  | 95 => zI 448 a
  | 96 => zO 3 [.ref 97]
  | 97 => zI 8 a
  | 98 => zO 11 [.ref 99, .ref 100, .ref 101, .int (i 3), .ref 102, .int (i 5), .int (i 6), .int (i 7), .int (i 8), .int (i 9), .int (i 10), .int (i 11), .int (i 12), .ref 103, .ref 104, .ref 105, .int (i 16), .ref 106, .ref 107, .ref 108, .ref 109, .int (i 21), .ref 110, .int (i 23), .ref 111, .ref 112, .ref 113, .ref 114, .int (i 28)]
  | 99 => zI 174 a
  | 100 => zI 174 a
  | 101 => zI 1740 a
  | 102 => zI 400 a
  | 103 => zI 8 a
  | 104 => zI 256 a
  | 105 => zI 256 a
  | 106 => zI 8 a
  | 107 => zI 2048 a
  | 108 => zI 56 a
  | 109 => zI 56 a
  | 110 => zI 32 a
  | 111 => zI 56 a
  | 112 => zI 8 a
  | 113 => zI 8 a
  | 114 => zI 400 a
  | _ => zI 0 a
abbrev zF2 : Type := Nat → Nat → Int32
def zWd (I A : zF2) (t : zW) : zW := (List.range 115).map (fun p => zCel p (I p) (A p)) ++ t
theorem zWd_at {I A : zF2} {t : zW} {p : Nat} (hp : p < 115) : (zWd I A t)[p]? = some (zCel p (I p) (A p)) := by
  unfold zWd
  rw [List.getElem?_append_left (by simp; exact hp), List.getElem?_map, List.getElem?_range hp]
  rfl
theorem zWd_set {I A : zF2} {t : zW} {p : Nat} (hp : p < 115) (i a : Nat → Int32) : (zWd I A t).set p (zCel p i a) = zWd (va_up I p i) (va_up A p a) t := by
  unfold zWd
  rw [List.set_append_left _ _ (by simp; exact hp)]
  congr 1
  apply List.ext_getElem?
  intro j
  rw [List.getElem?_set, List.getElem?_map, List.getElem?_map]
  by_cases h : p = j
  · subst h
    simp [hp, va_up]
  · rw [if_neg h]
    cases hj : (List.range 115)[j]? with
    | none => rfl
    | some k =>
      have hk : k = j := by
        have h1 := List.getElem?_eq_some_iff.mp hj
        obtain ⟨h1, h2⟩ := h1
        simpa using h2.symm
      subst hk
      simp [va_up, Ne.symm h]
theorem zup_self {α : Type} (f : Nat → α) (k : Nat) : va_up f k (f k) = f := by
  funext j
  unfold va_up
  split
  · rename_i h
    rw [h]
  · rfl
/-- place p is an int array of n -/
def zAr (p n : Nat) : Prop := p < 115 ∧ n < 2 ^ 31 ∧ ∀ i a, zCel p i a = zI n a
theorem zAr.rd {I A : zF2} {t : zW} {p n j : Nat} (h : zAr p n) (hj : j < n) : zaI (zWd I A t) p (nI j) = some (A p j) := by
  unfold zaI
  rw [zWd_at h.1, h.2.2]
  have hc : (nI j).toNatClampNeg = j := nI_clamp (by have := h.2.1; omega)
  have h1 : ¬ (nI j < 0 ∨ n ≤ (nI j).toNatClampNeg) := nI_in hj h.2.1
  show (if nI j < 0 ∨ n ≤ (nI j).toNatClampNeg then none else some (A p (nI j).toNatClampNeg)) = _
  rw [if_neg h1, hc]
theorem zAr.wr {I A : zF2} {t : zW} {p n j : Nat} {x : Int32} (h : zAr p n) (hj : j < n) : zsI (zWd I A t) p (nI j) x = some (zWd I (va_up A p (upd (A p) j x)) t) := by
  unfold zsI
  rw [zWd_at h.1, h.2.2]
  have hc : (nI j).toNatClampNeg = j := nI_clamp (by have := h.2.1; omega)
  have h1 : ¬ (nI j < 0 ∨ n ≤ (nI j).toNatClampNeg) := nI_in hj h.2.1
  show (if nI j < 0 ∨ n ≤ (nI j).toNatClampNeg then none else some ((zWd I A t).set p (zI n (upd (A p) (nI j).toNatClampNeg x)))) = _
  rw [if_neg h1, hc, ← h.2.2 (I p), zWd_set h.1, zup_self]
theorem zAr.len {I A : zF2} {t : zW} {p n : Nat} (h : zAr p n) : zaL (zWd I A t) p = some (nI n) := by
  unfold zaL
  rw [zWd_at h.1, h.2.2]
theorem zAr.cp {I A : zF2} {t : zW} {p n q m sp dp k : Nat} (h : zAr p n) (g : zAr q m) (h1 : sp + k ≤ n) (h2 : dp + k ≤ m) : zcp (zWd I A t) p (nI sp) q (nI dp) (nI k) = some (zWd I (va_up A q (va_cpy (A p) (A q) sp dp k)) t) := by
  unfold zcp
  rw [zWd_at h.1, zWd_at g.1, h.2.2, g.2.2]
  have hn := h.2.1
  have hm := g.2.1
  have c1 : (nI sp).toNatClampNeg = sp := nI_clamp (by omega)
  have c2 : (nI dp).toNatClampNeg = dp := nI_clamp (by omega)
  have c3 : (nI k).toNatClampNeg = k := nI_clamp (by omega)
  have p1 : ¬ nI sp < 0 := nI_pos (by omega)
  have p2 : ¬ nI dp < 0 := nI_pos (by omega)
  have p3 : ¬ nI k < 0 := nI_pos (by omega)
  show (if nI sp < 0 ∨ nI dp < 0 ∨ nI k < 0 ∨ n < (nI sp).toNatClampNeg + (nI k).toNatClampNeg ∨ m < (nI dp).toNatClampNeg + (nI k).toNatClampNeg then none else some ((zWd I A t).set q (zI m (va_cpy (A p) (A q) (nI sp).toNatClampNeg (nI dp).toNatClampNeg (nI k).toNatClampNeg)))) = _
  rw [c1, c2, c3, if_neg (by simp only [p1, p2, p3, false_or]; omega), ← g.2.2 (I q), zWd_set g.1, zup_self]
/-- place p is an object of class ci; k an int field -/
def zFi (p ci k : Nat) : Prop := p < 115 ∧ ∃ fs : (Nat → Int32) → List Value, (∀ i a, zCel p i a = zO ci (fs i)) ∧ (∀ i, (fs i)[k]? = some (.int (i k))) ∧ ∀ i x, (fs i).set k (.int x) = fs (upd i k x)
theorem zFi.rd {I A : zF2} {t : zW} {p ci k : Nat} (h : zFi p ci k) : zfI (zWd I A t) p ci k = some (I p k) := by
  obtain ⟨h1, fs, h2, h3, -⟩ := h
  unfold zfI
  rw [zWd_at h1, h2]
  simp only [h3, if_true]
theorem zFi.wr {I A : zF2} {t : zW} {p ci k : Nat} {x : Int32} (h : zFi p ci k) : zsF (zWd I A t) p ci k (.int x) = some (zWd (va_up I p (upd (I p) k x)) A t) := by
  obtain ⟨h1, fs, h2, h3, h4⟩ := h
  unfold zsF
  rw [zWd_at h1, h2]
  have hl : k < (fs (I p)).length := (List.getElem?_eq_some_iff.mp (h3 (I p))).1
  simp only [hl, and_self, if_true]
  rw [h4, ← h2 _ (A p), zWd_set h1, zup_self]
/-- field k of the object at p is the place r -/
def zFr (p ci k r : Nat) : Prop := p < 115 ∧ ∃ fs : (Nat → Int32) → List Value, (∀ i a, zCel p i a = zO ci (fs i)) ∧ (∀ i, (fs i)[k]? = some (.ref r))
theorem zFr.rd {I A : zF2} {t : zW} {p ci k r : Nat} (h : zFr p ci k r) : zfR (zWd I A t) p ci k = some r := by
  obtain ⟨h1, fs, h2, h3⟩ := h
  unfold zfR
  rw [zWd_at h1, h2]
  simp only [h3, if_true]
def zOb (p ci : Nat) : Prop := p < 115 ∧ ∃ fs : (Nat → Int32) → List Value, ∀ i a, zCel p i a = zO ci (fs i)
theorem zOb.is {I A : zF2} {t : zW} {p ci : Nat} (h : zOb p ci) : zIs (zWd I A t) p ci := by
  obtain ⟨h1, fs, h2⟩ := h
  exact ⟨fs (I p), by rw [zWd_at h1, h2]⟩
theorem zRs {I A : zF2} {t : zW} {s : Nat} (h : s < 3) : zaR (zWd I A t) 1 (nI s) = some (2 + 5 * s) := by
  unfold zaR
  rw [zWd_at (by decide)]
  have h1 : ¬ (nI s < 0 ∨ 3 ≤ (nI s).toNatClampNeg) := nI_in h (by decide)
  have hc : (nI s).toNatClampNeg = s := nI_clamp (by omega)
  show (if nI s < 0 ∨ 3 ≤ (nI s).toNatClampNeg then none else (if (nI s).toNatClampNeg < 3 then some (2 + 5 * (nI s).toNatClampNeg) else none)) = _
  rw [if_neg h1, hc, if_pos h]
theorem zRk {I A : zF2} {t : zW} {s : Nat} (h : s < 10) : zaR (zWd I A t) 23 (nI s) = some (25 + 5 * s) := by
  unfold zaR
  rw [zWd_at (by decide)]
  have h1 : ¬ (nI s < 0 ∨ 10 ≤ (nI s).toNatClampNeg) := nI_in h (by decide)
  have hc : (nI s).toNatClampNeg = s := nI_clamp (by omega)
  show (if nI s < 0 ∨ 10 ≤ (nI s).toNatClampNeg then none else (if (nI s).toNatClampNeg < 10 then some (25 + 5 * (nI s).toNatClampNeg) else none)) = _
  rw [if_neg h1, hc, if_pos h]
/-- the places of orders -/
def zOq (q : Nat) : Prop := (∃ s, s < 4 ∧ q = 2 + 5 * s) ∨ ∃ s, s < 10 ∧ q = 25 + 5 * s
theorem zOq.cell {q r : Nat} (h : zOq q) (hr : r < 5) (i a : Nat → Int32) : zCel (q + r) i a = zOC q r i a := by
  unfold zCel
  rcases h with ⟨s, hs, rfl⟩ | ⟨s, hs, rfl⟩
  · rw [if_pos (by omega), show 2 + (2 + 5 * s + r - 2) / 5 * 5 = 2 + 5 * s by omega, show (2 + 5 * s + r - 2) % 5 = r by omega]
  · rw [if_neg (by omega), if_pos (by omega), show 25 + (25 + 5 * s + r - 25) / 5 * 5 = 25 + 5 * s by omega, show (25 + 5 * s + r - 25) % 5 = r by omega]
theorem zOq.lt {q : Nat} (h : zOq q) : q + 5 < 115 := by
  rcases h with ⟨s, hs, rfl⟩ | ⟨s, hs, rfl⟩ <;> omega
theorem zOq.ob {q : Nat} (h : zOq q) : zOb q 5 := ⟨by have := h.lt; omega, fun i => [.ref (q + 1), .ref (q + 2), .ref (q + 3), .int (i 3)], fun i a => h.cell (r := 0) (by decide) i a⟩
theorem zOq.sz {q : Nat} (h : zOq q) : zFi q 5 3 := ⟨by have := h.lt; omega, fun i => [.ref (q + 1), .ref (q + 2), .ref (q + 3), .int (i 3)], fun i a => h.cell (r := 0) (by decide) i a, fun _ => rfl, fun i x => by simp [upd]⟩
theorem zOq.bl {q : Nat} (h : zOq q) : zFr q 5 0 (q + 1) := ⟨by have := h.lt; omega, fun i => [.ref (q + 1), .ref (q + 2), .ref (q + 3), .int (i 3)], fun i a => h.cell (r := 0) (by decide) i a, fun _ => rfl⟩
theorem zOq.ab {q : Nat} (h : zOq q) : zFr q 5 1 (q + 2) := ⟨by have := h.lt; omega, fun i => [.ref (q + 1), .ref (q + 2), .ref (q + 3), .int (i 3)], fun i a => h.cell (r := 0) (by decide) i a, fun _ => rfl⟩
theorem zOq.rw {q : Nat} (h : zOq q) : zFr q 5 2 (q + 3) := ⟨by have := h.lt; omega, fun i => [.ref (q + 1), .ref (q + 2), .ref (q + 3), .int (i 3)], fun i a => h.cell (r := 0) (by decide) i a, fun _ => rfl⟩
theorem zOq.bA {q : Nat} (h : zOq q) : zAr (q + 1) 8 := ⟨by have := h.lt; omega, by decide, fun i a => h.cell (r := 1) (by decide) i a⟩
theorem zOq.aA {q : Nat} (h : zOq q) : zAr (q + 2) 8 := ⟨by have := h.lt; omega, by decide, fun i a => h.cell (r := 2) (by decide) i a⟩
theorem zOq.hA {q : Nat} (h : zOq q) : zAr (q + 4) 48 := ⟨by have := h.lt; omega, by decide, fun i a => h.cell (r := 4) (by decide) i a⟩
theorem zOq.rob {q : Nat} (h : zOq q) : zOb (q + 3) 8 := ⟨by have := h.lt; omega, fun i => [.ref (q + 4), .int (i 1)], fun i a => h.cell (r := 3) (by decide) i a⟩
theorem zOq.rsz {q : Nat} (h : zOq q) : zFi (q + 3) 8 1 := ⟨by have := h.lt; omega, fun i => [.ref (q + 4), .int (i 1)], fun i a => h.cell (r := 3) (by decide) i a, fun _ => rfl, fun i x => by simp [upd]⟩
theorem zOq.rh {q : Nat} (h : zOq q) : zFr (q + 3) 8 0 (q + 4) := ⟨by have := h.lt; omega, fun i => [.ref (q + 4), .int (i 1)], fun i a => h.cell (r := 3) (by decide) i a, fun _ => rfl⟩
/-- a method that only reads and answers x -/
def zRd (X : zX) (d : Nat) (M : zM) (av : List Value) (w : zW) (x : Int32) : Prop := zEv X d 0 0 M av w (fun v w1 => v = some (.int x) ∧ w1 = w)
theorem zcRd {X : zX} {d d1 : Nat} {N : zM} {av : List Value} {w : zW} {x : Int32} {K : Int32 → zW → Prop} (h : zRd X d1 N av w x) (hd : d1 < d) (k : K x w) : zCallI X d N av w K :=
  ⟨d1, _, hd, h, fun v w1 ⟨e1, e2⟩ => ⟨x, e1, by rw [e2]; exact k⟩⟩
theorem zvRd {X : zX} {d d1 : Nat} {N : zM} {p ci : Nat} {av : List Value} {I A : zF2} {t : zW} {x : Int32} {K : Int32 → zW → Prop} (ho : zOb p ci) (h : zRd X d1 N av (zWd I A t) x) (hd : d1 < d) (k : K x (zWd I A t)) : zIs (zWd I A t) p ci ∧ zCallI X d N av (zWd I A t) K := ⟨ho.is, zcRd h hd k⟩
