/-! ===== the constructors: past, bytes, the rest ===== -/
theorem zfR_hd {w l : zW} {ci k r : Nat} {fs : List Value} (hk : fs[k]? = some (.ref r)) : zfR (w ++ zO ci fs :: l) w.length ci k = some r := by
  unfold zfR
  rw [List.getElem?_append_right (Nat.le_refl _), Nat.sub_self]
  simp only [List.getElem?_cons_zero, zO]
  rw [if_pos trivial, hk]
section ZI2
variable {X : zX} {w : zW}
theorem c_past (hw : w.length + 60 < zBig) : zEv X 3 52 720 MX6_init [.ref w.length] (w ++ [zO 6 [.null, .null, .int 0, .int 0]]) (fun v w1 => v = none ∧ w1 = w ++ zPst w.length) := by
  have l1 : (w ++ [zO 6 [.null, .null, .int 0, .int 0]]).length = w.length + 1 := zln1 _ _
  have l2 : (w ++ [zO 6 [.ref (w.length + 1), .null, .int 0, .int 0], zR 10 (fun _ => none)]).length = w.length + 2 := zln1 _ _
  refine eX6_init _ (bX6_init_0 _ ⟨by decide, ⟨rfl, by decide, by omega, by decide, by decide⟩, w ++ [zO 6 [.ref (w.length + 1), .null, .int 0, .int 0], zR 10 (fun _ => none)], ?_, ⟨rfl, by decide, by omega, by decide, by decide⟩, w ++ [zO 6 [.ref (w.length + 1), .ref (w.length + 2), .int 0, .int 0], zR 10 (fun _ => none), zI 10 z0_], ?_, ?_⟩)
  · rw [l1, zap1]
    exact zsF_hd (Nat.le_of_ble_eq_true rfl)
  · rw [l2, zap1]
    exact zsF_hd (Nat.le_of_ble_eq_true rfl)
  have key : ∀ k, k ≤ 10 → zRn X 3 (50 - 5 * k) (700 - 70 * k) MX6_init 23 [some (.ref w.length), some (.int (nI k))] [] (w ++ [zO 6 [.ref (w.length + 1), .ref (w.length + 2), .int 0, .int 0]] ++ zR 10 (zfk (w.length + 3) 10 k) :: (zI 10 z0_ :: zOs (w.length + 3) k)) (fun v w1 => v = none ∧ w1 = w ++ zPst w.length) := by
    refine zdown ?_ ?_
    · refine bX6_init_23 _ _ ?_
      rw [if_pos (by decide)]
      refine ⟨rfl, ?_⟩
      rw [List.append_assoc]
      rfl
    · intro k hk ih
      refine bX6_init_23 _ _ ?_
      show if nI 10 ≤ nI k then _ else _
      rw [zi_le (by decide) (by omega), if_neg (by omega)]
      generalize hW : w ++ [zO 6 [.ref (w.length + 1), .ref (w.length + 2), .int 0, .int 0]] ++ zR 10 (zfk (w.length + 3) 10 k) :: (zI 10 z0_ :: zOs (w.length + 3) k) = W
      have hl : W.length = w.length + 3 + 5 * k := by
        rw [← hW, zln1, zln1]
        show w.length + 1 + ((zOs (w.length + 3) k).length + 1 + 1) = _
        rw [zOs_len]
        omega
      refine ⟨w.length + 1, ?_, ⟨by omega, by omega, by omega⟩, 2, 4, 66, _, by decide, by omega, by omega, c_order (by omega), ?_⟩
      · rw [← hW, List.append_assoc]
        exact zfR_hd rfl
      · rintro v w1 ⟨rfl, rfl⟩
        refine ⟨rfl, w ++ [zO 6 [.ref (w.length + 1), .ref (w.length + 2), .int 0, .int 0]] ++ zR 10 (zfk (w.length + 3) 10 (k + 1)) :: (zI 10 z0_ :: zOs (w.length + 3) (k + 1)), ?_, ?_⟩
        · have e := zsR_at (w := w ++ [zO 6 [.ref (w.length + 1), .ref (w.length + 2), .int 0, .int 0]]) (l := zI 10 z0_ :: zOs (w.length + 3) k) (r := []) (n := 10) (k := k) (f := zfk (w.length + 3) 10 k) (fs := [.ref (w.length + 3 + 5 * k + 1), .ref (w.length + 3 + 5 * k + 2), .ref (w.length + 3 + 5 * k + 3), .int 0]) (o := [zI 8 z0_, zI 8 z0_, zO 8 [.ref (w.length + 3 + 5 * k + 4), .int 0], zI 48 z0_]) hk (by decide) rfl
          rw [hW, hl, zfk_s] at e
          have e1 : (w ++ [zO 6 [.ref (w.length + 1), .ref (w.length + 2), .int 0, .int 0]]).length = w.length + 1 := zln1 _ _
          rw [e1] at e
          rw [hl]
          refine e.trans ?_
          rw [List.append_assoc]
          rfl
        · rw [nI_1]
          have b1 : 50 - 5 * k - 1 - 4 = 50 - 5 * (k + 1) := by omega
          have b2 : 700 - 70 * k - 4 - 66 = 700 - 70 * (k + 1) := by omega
          rw [b1, b2]
          exact ih
  have k0 := key 0 (by decide)
  rw [List.append_assoc] at k0
  have e0 : zfk (w.length + 3) 10 0 = fun _ => none := by
    funext j
    unfold zfk
    rw [if_neg (Nat.not_lt_zero _)]
  rw [e0] at k0
  exact k0
theorem c_bytes {n : Nat} (hn : n ≤ 100000) (hw : w.length + 1 < zBig) : zEv X 1 1 n MX0_init [.ref w.length, .int (nI n)] (w ++ [zO 0 [.null, .int 0]]) (fun v w1 => v = none ∧ w1 = w ++ [zO 0 [.ref (w.length + 1), .int 0], zI n z0_]) := by
  have l1 : (w ++ [zO 0 [.null, .int 0]]).length = w.length + 1 := zln1 _ _
  refine eX0_init _ _ (bX0_init_0 _ _ ⟨by decide, by decide, n, ⟨if_neg (nI_pos (by omega)), hn, by omega, by decide, Nat.le_refl _⟩, w ++ [zO 0 [.ref (w.length + 1), .int 0], zI n z0_], ?_, rfl, rfl⟩)
  rw [l1, zap1]
  exact zsF_hd (Nat.le_of_ble_eq_true rfl)
theorem c_reader {p : Nat} : zEv X 1 0 0 MX7_init [.ref w.length, .ref p] (w ++ [zO 7 [.null, .int 0, .int 0, .int 0, .int 0, .int 0]]) (fun v w1 => v = none ∧ w1 = w ++ [zO 7 [.ref p, .int 0, .int 0, .int 0, .int 0, .int (-1)]]) :=
  eX7_init _ _ (bX7_init_0 _ _ ⟨by decide, _, zsF_hd (Nat.le_of_ble_eq_true rfl), _, zsF_hd (Nat.le_of_ble_eq_true rfl), rfl, rfl⟩)
theorem c_one {n : Nat} {M : zM} {ci : Nat} (hw : w.length + 1 < zBig) : (w ++ [zO ci [.null]]).length = w.length + 1 ∧ zsF (w ++ [zO ci [.null]] ++ [zI n z0_]) w.length ci 0 (.ref (w.length + 1)) = some (w ++ [zO ci [.ref (w.length + 1)], zI n z0_]) := by
  refine ⟨zln1 _ _, ?_⟩
  rw [zap1]
  exact zsF_hd (Nat.le_of_ble_eq_true rfl)
theorem c_jumps (hw : w.length + 1 < zBig) : zEv X 1 1 2048 MX2_init [.ref w.length] (w ++ [zO 2 [.null]]) (fun v w1 => v = none ∧ w1 = w ++ [zO 2 [.ref (w.length + 1)], zI 2048 z0_]) := by
  have h := c_one (n := 2048) (M := MX2_init) (ci := 2) hw
  refine eX2_init _ (bX2_init_0 _ ⟨by decide, ⟨rfl, by decide, by omega, by decide, by decide⟩, _, ?_, rfl, rfl⟩)
  rw [h.1]
  exact h.2
theorem c_like (hw : w.length + 1 < zBig) : zEv X 1 1 8 MX3_init [.ref w.length] (w ++ [zO 3 [.null]]) (fun v w1 => v = none ∧ w1 = w ++ [zO 3 [.ref (w.length + 1)], zI 8 z0_]) := by
  have h := c_one (n := 8) (M := MX3_init) (ci := 3) hw
  refine eX3_init _ (bX3_init_0 _ ⟨by decide, ⟨rfl, by decide, by omega, by decide, by decide⟩, _, ?_, rfl, rfl⟩)
  rw [h.1]
  exact h.2
end ZI2
