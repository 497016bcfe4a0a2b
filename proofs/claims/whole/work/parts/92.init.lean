/-! ===== the constructors ===== -/
abbrev z0_ : Nat → Int32 := fun _ => 0
theorem zsF_hd {w l : zW} {ci k : Nat} {fs : List Value} {v : Value} (hk : k < fs.length) : zsF (w ++ zO ci fs :: l) w.length ci k v = some (w ++ zO ci (fs.set k v) :: l) := by
  unfold zsF
  rw [List.getElem?_append_right (Nat.le_refl _), Nat.sub_self]
  simp only [List.getElem?_cons_zero, zO]
  rw [if_pos ⟨trivial, hk⟩, List.set_append_right _ _ (Nat.le_refl _), Nat.sub_self]
  rfl
theorem zap1 (w : zW) (l : zW) (a : zC) : w ++ l ++ [a] = w ++ (l ++ [a]) := List.append_assoc _ _ _
theorem zln1 (w l : zW) : (w ++ l).length = w.length + l.length := List.length_append
def zOrd (q : Nat) : zW := [zO 5 [.ref (q + 1), .ref (q + 2), .ref (q + 3), .int 0], zI 8 z0_, zI 8 z0_, zO 8 [.ref (q + 4), .int 0], zI 48 z0_]
section ZIn
variable {X : zX} {w : zW} {kc ks : Nat}
theorem c_rows (hw : w.length + 1 < zBig) : zEv X 1 1 48 MX8_init [.ref w.length] (w ++ [zO 8 [.null, .int 0]]) (fun v w1 => v = none ∧ w1 = w ++ [zO 8 [.ref (w.length + 1), .int 0], zI 48 z0_]) := by
  have l1 : (w ++ [zO 8 [.null, .int 0]]).length = w.length + 1 := zln1 _ _
  refine eX8_init _ (bX8_init_0 _ ⟨by decide, ⟨rfl, by decide, by omega, by decide, by decide⟩, w ++ [zO 8 [.ref (w.length + 1), .int 0], zI 48 z0_], ?_, rfl, rfl⟩)
  rw [l1, zap1]
  exact zsF_hd (Nat.le_of_ble_eq_true rfl)
theorem c_order (hw : w.length + 5 < zBig) : zEv X 2 4 66 MX5_init [.ref w.length] (w ++ [zO 5 [.null, .null, .null, .int 0]]) (fun v w1 => v = none ∧ w1 = w ++ zOrd w.length) := by
  have l1 : (w ++ [zO 5 [.null, .null, .null, .int 0]]).length = w.length + 1 := zln1 _ _
  have l2 : (w ++ [zO 5 [.ref (w.length + 1), .null, .null, .int 0], zI 8 z0_]).length = w.length + 2 := zln1 _ _
  have l3 : (w ++ [zO 5 [.ref (w.length + 1), .ref (w.length + 2), .null, .int 0], zI 8 z0_, zI 8 z0_]).length = w.length + 3 := zln1 _ _
  refine eX5_init _ (bX5_init_0 _ ⟨by decide, ⟨rfl, by decide, by omega, by decide, by decide⟩, w ++ [zO 5 [.ref (w.length + 1), .null, .null, .int 0], zI 8 z0_], ?_, ⟨rfl, by decide, by omega, by decide, by decide⟩, w ++ [zO 5 [.ref (w.length + 1), .ref (w.length + 2), .null, .int 0], zI 8 z0_, zI 8 z0_], ?_, ⟨by omega, by decide, by decide⟩, ?_⟩)
  · rw [l1, zap1]
    exact zsF_hd (Nat.le_of_ble_eq_true rfl)
  · rw [l2, zap1]
    exact zsF_hd (Nat.le_of_ble_eq_true rfl)
  · refine ⟨1, 1, 48, _, by decide, by decide, by decide, c_rows (by omega), ?_⟩
    rintro v w1 ⟨rfl, rfl⟩
    refine ⟨rfl, w ++ zOrd w.length, ?_, rfl, rfl⟩
    rw [l3, List.append_assoc]
    exact zsF_hd (Nat.le_of_ble_eq_true rfl)
def zOs (q : Nat) : Nat → zW
  | 0 => []
  | k + 1 => zOs q k ++ zOrd (q + 5 * k)
theorem zOs_len (q : Nat) : ∀ k, (zOs q k).length = 5 * k
  | 0 => rfl
  | k + 1 => by
    show (zOs q k ++ zOrd (q + 5 * k)).length = _
    rw [List.length_append, zOs_len q k]
    show 5 * k + 5 = _
    omega
def zfk (q m k : Nat) : Nat → Option Nat := fun j => if j < k then some (q + 5 * j) else none
theorem zfk_s (q m k : Nat) : va_up (zfk q m k) k (some (q + 5 * k)) = zfk q m (k + 1) := by
  funext j
  unfold va_up zfk
  by_cases c : j = k
  · rw [if_pos c, if_pos (by omega), c]
  · rw [if_neg c]
    by_cases c2 : j < k
    · rw [if_pos c2, if_pos (by omega)]
    · rw [if_neg c2, if_neg (by omega)]
/-- an array of references takes an order -/
theorem zsR_at {w l r : zW} {n k q0 : Nat} {f : Nat → Option Nat} {fs : List Value} {o : zW} (hk : k < n) (hn : n < 2 ^ 31) (hq : q0 = (w ++ zR n f :: l).length) : zsR (w ++ zR n f :: l ++ zO 5 fs :: o) w.length (nI k) q0 = some (w ++ zR n (va_up f k (some q0)) :: l ++ zO 5 fs :: o) := by
  have hc : (nI k).toNatClampNeg = k := nI_clamp (by omega)
  have h1 : (w ++ zR n f :: l ++ zO 5 fs :: o)[w.length]? = some (zR n f) := by
    rw [List.append_assoc, List.getElem?_append_right (Nat.le_refl _), Nat.sub_self]
    rfl
  have h2 : (w ++ zR n f :: l ++ zO 5 fs :: o)[q0]? = some (zO 5 fs) := by
    rw [hq, List.getElem?_append_right (Nat.le_refl _), Nat.sub_self]
    rfl
  unfold zsR
  rw [h1, h2]
  simp only [zR, zO]
  rw [if_neg (by rw [hc]; rintro (q | q); exact nI_pos (by omega) q; omega), hc, List.append_assoc, List.set_append_right _ _ (Nat.le_refl _), Nat.sub_self, List.append_assoc]
  rfl
def zPst (q : Nat) : zW := [zO 6 [.ref (q + 1), .ref (q + 2), .int 0, .int 0], zR 10 (zfk (q + 3) 10 10), zI 10 z0_] ++ zOs (q + 3) 10
end ZIn
