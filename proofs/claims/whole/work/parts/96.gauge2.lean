/-! ===== the constructor of the class, whole ===== -/
section ZGb
variable {X : zX}
theorem zstep2 {M : zM} {d d1 c1 s1 kc ks j N : Nat} {fs : List Value} {L Y : zW} {o : zC} {As : List Value} {K : Nat → Nat → zW → Prop} (ev : zEv X d1 c1 s1 M (.ref N :: As) (zO 10 fs :: L ++ [o]) (fun v w1 => v = none ∧ w1 = zO 10 fs :: L ++ Y)) (hd : d1 < d) (hc : c1 ≤ kc) (hs : s1 ≤ ks) (hj : j < fs.length) (k : K (kc - c1) (ks - s1) (zO 10 (fs.set j (.ref N)) :: (L ++ Y))) : zCallC X d kc ks M (.ref N :: As) (zO 10 fs :: L ++ [o]) (fun k2 s3 w1 => ∃ w4, zsF w1 0 10 j (.ref N) = some w4 ∧ K k2 s3 w4) := by
  refine ⟨d1, c1, s1, _, hd, hc, hs, ev, ?_⟩
  rintro v w1 ⟨rfl, rfl⟩
  exact ⟨rfl, _, zsF_hd (w := []) hj, k⟩
theorem s_1 : zEv X 2 4 66 MX5_init [.ref 17] (zO 10 [.ref 1, .null, .null, .null, .null, .null, .null, .null, .null, .null, .null] :: zG0 ++ [zO 5 [.null, .null, .null, .int 0]]) (fun v w1 => v = none ∧ w1 = zO 10 [.ref 1, .null, .null, .null, .null, .null, .null, .null, .null, .null, .null] :: zG0 ++ zOrd 17) := by
  have := c_order (X := X) (w := zO 10 [.ref 1, .null, .null, .null, .null, .null, .null, .null, .null, .null, .null] :: zG0) (by rw [gl0]; decide)
  rw [gl0] at this
  exact this
theorem s_2 : zEv X 3 52 720 MX6_init [.ref 22] (zO 10 [.ref 1, .ref 17, .null, .null, .null, .null, .null, .null, .null, .null, .null] :: zG1 ++ [zO 6 [.null, .null, .int 0, .int 0]]) (fun v w1 => v = none ∧ w1 = zO 10 [.ref 1, .ref 17, .null, .null, .null, .null, .null, .null, .null, .null, .null] :: zG1 ++ zPst 22) := by
  have := c_past (X := X) (w := zO 10 [.ref 1, .ref 17, .null, .null, .null, .null, .null, .null, .null, .null, .null] :: zG1) (by rw [gl1]; decide)
  rw [gl1] at this
  exact this
theorem s_3 : zEv X 1 1 400 MX0_init [.ref 75, .int 400] (zO 10 [.ref 1, .ref 17, .ref 22, .null, .null, .null, .null, .null, .null, .null, .null] :: zG2 ++ [zO 0 [.null, .int 0]]) (fun v w1 => v = none ∧ w1 = zO 10 [.ref 1, .ref 17, .ref 22, .null, .null, .null, .null, .null, .null, .null, .null] :: zG2 ++ [zO 0 [.ref 76, .int 0], zI 400 z0_]) := by
  have := c_bytes (n := 400) (by decide) (X := X) (w := zO 10 [.ref 1, .ref 17, .ref 22, .null, .null, .null, .null, .null, .null, .null, .null] :: zG2) (by rw [gl2]; decide)
  rw [gl2] at this
  exact this
theorem s_4 : zEv X 1 1 160 MX0_init [.ref 77, .int 160] (zO 10 [.ref 1, .ref 17, .ref 22, .ref 75, .null, .null, .null, .null, .null, .null, .null] :: zG3 ++ [zO 0 [.null, .int 0]]) (fun v w1 => v = none ∧ w1 = zO 10 [.ref 1, .ref 17, .ref 22, .ref 75, .null, .null, .null, .null, .null, .null, .null] :: zG3 ++ [zO 0 [.ref 78, .int 0], zI 160 z0_]) := by
  have := c_bytes (n := 160) (by decide) (X := X) (w := zO 10 [.ref 1, .ref 17, .ref 22, .ref 75, .null, .null, .null, .null, .null, .null, .null] :: zG3) (by rw [gl3]; decide)
  rw [gl3] at this
  exact this
theorem s_5 : zEv X 1 0 0 MX7_init [.ref 79, .ref 75] (zO 10 [.ref 1, .ref 17, .ref 22, .ref 75, .ref 77, .null, .null, .null, .null, .null, .null] :: zG4 ++ [zO 7 [.null, .int 0, .int 0, .int 0, .int 0, .int 0]]) (fun v w1 => v = none ∧ w1 = zO 10 [.ref 1, .ref 17, .ref 22, .ref 75, .ref 77, .null, .null, .null, .null, .null, .null] :: zG4 ++ [zO 7 [.ref 75, .int 0, .int 0, .int 0, .int 0, .int (-1)]]) := by
  have := c_reader (p := 75) (X := X) (w := zO 10 [.ref 1, .ref 17, .ref 22, .ref 75, .ref 77, .null, .null, .null, .null, .null, .null] :: zG4)
  rw [gl4] at this
  exact this
theorem s_6 : zEv X 1 3 24 MX1_init [.ref 80] (zO 10 [.ref 1, .ref 17, .ref 22, .ref 75, .ref 77, .ref 79, .null, .null, .null, .null, .null] :: zG5 ++ [zO 1 [.null, .null, .null]]) (fun v w1 => v = none ∧ w1 = zO 10 [.ref 1, .ref 17, .ref 22, .ref 75, .ref 77, .ref 79, .null, .null, .null, .null, .null] :: zG5 ++ [zO 1 [.ref 81, .ref 82, .ref 83], zI 8 z0_, zI 8 z0_, zI 8 z0_]) := by
  have := c_chains (X := X) (w := zO 10 [.ref 1, .ref 17, .ref 22, .ref 75, .ref 77, .ref 79, .null, .null, .null, .null, .null] :: zG5) (by rw [gl5]; decide)
  rw [gl5] at this
  exact this
theorem s_7 : zEv X 1 2 512 MX4_init [.ref 84] (zO 10 [.ref 1, .ref 17, .ref 22, .ref 75, .ref 77, .ref 79, .ref 80, .null, .null, .null, .null] :: zG6 ++ [zO 4 [.null, .null]]) (fun v w1 => v = none ∧ w1 = zO 10 [.ref 1, .ref 17, .ref 22, .ref 75, .ref 77, .ref 79, .ref 80, .null, .null, .null, .null] :: zG6 ++ [zO 4 [.ref 85, .ref 86], zI 256 z0_, zI 256 z0_]) := by
  have := c_lines (X := X) (w := zO 10 [.ref 1, .ref 17, .ref 22, .ref 75, .ref 77, .ref 79, .ref 80, .null, .null, .null, .null] :: zG6) (by rw [gl6]; decide)
  rw [gl6] at this
  exact this
theorem s_8 : zEv X 1 1 2048 MX2_init [.ref 87] (zO 10 [.ref 1, .ref 17, .ref 22, .ref 75, .ref 77, .ref 79, .ref 80, .ref 84, .null, .null, .null] :: zG7 ++ [zO 2 [.null]]) (fun v w1 => v = none ∧ w1 = zO 10 [.ref 1, .ref 17, .ref 22, .ref 75, .ref 77, .ref 79, .ref 80, .ref 84, .null, .null, .null] :: zG7 ++ [zO 2 [.ref 88], zI 2048 z0_]) := by
  have := c_jumps (X := X) (w := zO 10 [.ref 1, .ref 17, .ref 22, .ref 75, .ref 77, .ref 79, .ref 80, .ref 84, .null, .null, .null] :: zG7) (by rw [gl7]; decide)
  rw [gl7] at this
  exact this
theorem s_9 : zEv X 1 6 705 MX9_init [.ref 89] (zO 10 [.ref 1, .ref 17, .ref 22, .ref 75, .ref 77, .ref 79, .ref 80, .ref 84, .ref 87, .null, .null] :: zG8 ++ [zO 9 [.null, .null, .null, .null, .null, .null, .int 0]]) (fun v w1 => v = none ∧ w1 = zO 10 [.ref 1, .ref 17, .ref 22, .ref 75, .ref 77, .ref 79, .ref 80, .ref 84, .ref 87, .null, .null] :: zG8 ++ [zO 9 [.ref 90, .ref 91, .ref 92, .ref 93, .ref 94, .ref 95, .int 0], zI 56 z0_, zI 56 z0_, zI 56 z0_, zI 57 z0_, zI 32 z0_, zI 448 z0_]) := by
  have := c_search (X := X) (w := zO 10 [.ref 1, .ref 17, .ref 22, .ref 75, .ref 77, .ref 79, .ref 80, .ref 84, .ref 87, .null, .null] :: zG8) (by rw [gl8]; decide)
  rw [gl8] at this
  exact this
theorem s_10 : zEv X 1 1 8 MX3_init [.ref 96] (zO 10 [.ref 1, .ref 17, .ref 22, .ref 75, .ref 77, .ref 79, .ref 80, .ref 84, .ref 87, .ref 89, .null] :: zG9 ++ [zO 3 [.null]]) (fun v w1 => v = none ∧ w1 = zO 10 [.ref 1, .ref 17, .ref 22, .ref 75, .ref 77, .ref 79, .ref 80, .ref 84, .ref 87, .ref 89, .null] :: zG9 ++ [zO 3 [.ref 97], zI 8 z0_]) := by
  have := c_like (X := X) (w := zO 10 [.ref 1, .ref 17, .ref 22, .ref 75, .ref 77, .ref 79, .ref 80, .ref 84, .ref 87, .ref 89, .null] :: zG9) (by rw [gl9]; decide)
  rw [gl9] at this
  exact this
theorem c_gauge : zEv X 4 97 4888 MX11_init [.ref 0] [zO 10 [.null, .null, .null, .null, .null, .null, .null, .null, .null, .null, .null]] (fun v w1 => v = none ∧ w1 = zO 10 [.ref 1, .ref 17, .ref 22, .ref 75, .ref 77, .ref 79, .ref 80, .ref 84, .ref 87, .ref 89, .ref 96] :: zG10) := by
  refine eX11_init _ (bX11_init_0 _ ⟨by decide, ⟨rfl, by decide, by decide, by decide, by decide⟩, [zO 10 [.ref 1, .null, .null, .null, .null, .null, .null, .null, .null, .null, .null], zR 3 (fun _ => none)], rfl, ?_⟩)
  have key : ∀ k, k ≤ 3 → zRn X 4 (96 - 5 * k) (4885 - 70 * k) MX11_init 14 [some (.ref 0), some (.int (nI k))] [] ([zO 10 [.ref 1, .null, .null, .null, .null, .null, .null, .null, .null, .null, .null]] ++ zR 3 (zfk 2 3 k) :: zOs 2 k) (fun v w1 => v = none ∧ w1 = zO 10 [.ref 1, .ref 17, .ref 22, .ref 75, .ref 77, .ref 79, .ref 80, .ref 84, .ref 87, .ref 89, .ref 96] :: zG10) := by
    refine zdown ?_ ?_
    · refine bX11_init_14 _ _ ?_
      rw [if_pos (by decide)]
      show ((zO 10 [.ref 1, .null, .null, .null, .null, .null, .null, .null, .null, .null, .null] :: zG0).length < zBig ∧ _) ∧ zCallC X 4 _ _ MX5_init [.ref (zO 10 [.ref 1, .null, .null, .null, .null, .null, .null, .null, .null, .null, .null] :: zG0).length] (zO 10 [.ref 1, .null, .null, .null, .null, .null, .null, .null, .null, .null, .null] :: zG0 ++ [_]) _
      rw [gl0]
      refine ⟨⟨by decide, by decide, by decide⟩, zstep2 s_1 (by decide) (by decide) (by decide) (Nat.le_of_ble_eq_true rfl) ?_⟩
      show ((zO 10 [.ref 1, .ref 17, .null, .null, .null, .null, .null, .null, .null, .null, .null] :: zG1).length < zBig ∧ _) ∧ _
      rw [gl1]
      refine ⟨⟨by decide, by decide, by decide⟩, zstep2 s_2 (by decide) (by decide) (by decide) (Nat.le_of_ble_eq_true rfl) ?_⟩
      show ((zO 10 [.ref 1, .ref 17, .ref 22, .null, .null, .null, .null, .null, .null, .null, .null] :: zG2).length < zBig ∧ _) ∧ _
      rw [gl2]
      refine ⟨⟨by decide, by decide, by decide⟩, zstep2 s_3 (by decide) (by decide) (by decide) (Nat.le_of_ble_eq_true rfl) ?_⟩
      show ((zO 10 [.ref 1, .ref 17, .ref 22, .ref 75, .null, .null, .null, .null, .null, .null, .null] :: zG3).length < zBig ∧ _) ∧ _
      rw [gl3]
      refine ⟨⟨by decide, by decide, by decide⟩, zstep2 s_4 (by decide) (by decide) (by decide) (Nat.le_of_ble_eq_true rfl) ?_⟩
      show ((zO 10 [.ref 1, .ref 17, .ref 22, .ref 75, .ref 77, .null, .null, .null, .null, .null, .null] :: zG4).length < zBig ∧ _) ∧ _
      rw [gl4]
      refine ⟨⟨by decide, by decide, by decide⟩, 75, zfR_hd (w := []) rfl, zstep2 s_5 (by decide) (by decide) (by decide) (Nat.le_of_ble_eq_true rfl) ?_⟩
      show ((zO 10 [.ref 1, .ref 17, .ref 22, .ref 75, .ref 77, .ref 79, .null, .null, .null, .null, .null] :: zG5).length < zBig ∧ _) ∧ _
      rw [gl5]
      refine ⟨⟨by decide, by decide, by decide⟩, zstep2 s_6 (by decide) (by decide) (by decide) (Nat.le_of_ble_eq_true rfl) ?_⟩
      show ((zO 10 [.ref 1, .ref 17, .ref 22, .ref 75, .ref 77, .ref 79, .ref 80, .null, .null, .null, .null] :: zG6).length < zBig ∧ _) ∧ _
      rw [gl6]
      refine ⟨⟨by decide, by decide, by decide⟩, zstep2 s_7 (by decide) (by decide) (by decide) (Nat.le_of_ble_eq_true rfl) ?_⟩
      show ((zO 10 [.ref 1, .ref 17, .ref 22, .ref 75, .ref 77, .ref 79, .ref 80, .ref 84, .null, .null, .null] :: zG7).length < zBig ∧ _) ∧ _
      rw [gl7]
      refine ⟨⟨by decide, by decide, by decide⟩, zstep2 s_8 (by decide) (by decide) (by decide) (Nat.le_of_ble_eq_true rfl) ?_⟩
      show ((zO 10 [.ref 1, .ref 17, .ref 22, .ref 75, .ref 77, .ref 79, .ref 80, .ref 84, .ref 87, .null, .null] :: zG8).length < zBig ∧ _) ∧ _
      rw [gl8]
      refine ⟨⟨by decide, by decide, by decide⟩, zstep2 s_9 (by decide) (by decide) (by decide) (Nat.le_of_ble_eq_true rfl) ?_⟩
      show ((zO 10 [.ref 1, .ref 17, .ref 22, .ref 75, .ref 77, .ref 79, .ref 80, .ref 84, .ref 87, .ref 89, .null] :: zG9).length < zBig ∧ _) ∧ _
      rw [gl9]
      refine ⟨⟨by decide, by decide, by decide⟩, zstep2 s_10 (by decide) (by decide) (by decide) (Nat.le_of_ble_eq_true rfl) ?_⟩
      exact ⟨rfl, rfl⟩
    · intro k hk ih
      refine bX11_init_14 _ _ ?_
      show if nI 3 ≤ nI k then _ else _
      rw [zi_le (by decide) (by omega), if_neg (by omega)]
      generalize hW : [zO 10 [.ref 1, .null, .null, .null, .null, .null, .null, .null, .null, .null, .null]] ++ zR 3 (zfk 2 3 k) :: zOs 2 k = W
      have hl : W.length = 2 + 5 * k := by
        rw [← hW, zln1]
        show 1 + ((zOs 2 k).length + 1) = _
        rw [zOs_len]
        omega
      have hB : zBig = 1000000 := rfl
      refine ⟨1, ?_, ⟨by omega, by omega, by omega⟩, 2, 4, 66, _, by decide, by omega, by omega, c_order (by omega), ?_⟩
      · rw [← hW]
        rfl
      · rintro v w1 ⟨rfl, rfl⟩
        refine ⟨rfl, [zO 10 [.ref 1, .null, .null, .null, .null, .null, .null, .null, .null, .null, .null]] ++ zR 3 (zfk 2 3 (k + 1)) :: zOs 2 (k + 1), ?_, ?_⟩
        · have e := zsR_at (w := [zO 10 [.ref 1, .null, .null, .null, .null, .null, .null, .null, .null, .null, .null]]) (l := zOs 2 k) (r := []) (n := 3) (k := k) (f := zfk 2 3 k) (fs := [.ref (2 + 5 * k + 1), .ref (2 + 5 * k + 2), .ref (2 + 5 * k + 3), .int 0]) (o := [zI 8 z0_, zI 8 z0_, zO 8 [.ref (2 + 5 * k + 4), .int 0], zI 48 z0_]) hk (by decide) rfl
          rw [hW, hl, zfk_s] at e
          rw [hl]
          refine e.trans ?_
          rw [List.append_assoc]
          rfl
        · rw [nI_1]
          have b1 : 96 - 5 * k - 1 - 4 = 96 - 5 * (k + 1) := by omega
          have b2 : 4885 - 70 * k - 4 - 66 = 4885 - 70 * (k + 1) := by omega
          rw [b1, b2]
          exact ih
  have k0 := key 0 (by decide)
  have e0 : zfk 2 3 0 = fun _ => none := by
    funext j
    unfold zfk
    rw [if_neg (Nat.not_lt_zero _)]
  rw [e0] at k0
  exact k0
end ZGb
