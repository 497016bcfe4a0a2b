/-! ===== the law from its start ===== -/
def zI0 : zF2 := fun p k => if p = 79 ∧ k = 5 then -1 else if p = 98 ∧ k = 7 then -1 else 0
def zA0 : zF2 := fun _ _ => 0
def zS0 : zSt := (fun _ => zFe 0, [], (0, fun _ => 0), (0, fun _ => 0), 0, -1)
theorem zEn_0 (k : Nat) : zEn (zFe 0) k = 0 := by
  unfold zEn
  split
  · rfl
  · split
    · rfl
    · split
      · rfl
      · rfl
theorem zCI_0 : zCI zS0 zI0 zA0 := by
  refine ⟨fun s hs => ?_, fun s _ => zVl_Fe (by decide), ⟨Nat.zero_le _, rfl, 0, by decide, rfl, trivial⟩, ⟨Nat.zero_le _, rfl, fun i hi => absurd hi (Nat.not_lt_zero _)⟩, ⟨Nat.zero_le _, rfl, fun i hi => absurd hi (Nat.not_lt_zero _)⟩, rfl, rfl⟩
  have hv := zVl_Fe (m := 0) (by decide)
  have hq : zOq (2 + 5 * s) := Or.inl ⟨s, by omega, rfl⟩
  rcases (show s = 0 ∨ s = 1 ∨ s = 2 by omega) with rfl | rfl | rfl
  · exact ⟨⟨hq, hv.1, rfl, fun b hb => absurd hb (Nat.not_lt_zero _), fun b hb => absurd hb (Nat.not_lt_zero _)⟩, hv.2.1, rfl, fun r i hr => absurd hr (Nat.not_lt_zero _)⟩
  · exact ⟨⟨hq, hv.1, rfl, fun b hb => absurd hb (Nat.not_lt_zero _), fun b hb => absurd hb (Nat.not_lt_zero _)⟩, hv.2.1, rfl, fun r i hr => absurd hr (Nat.not_lt_zero _)⟩
  · exact ⟨⟨hq, hv.1, rfl, fun b hb => absurd hb (Nat.not_lt_zero _), fun b hb => absurd hb (Nat.not_lt_zero _)⟩, hv.2.1, rfl, fun r i hr => absurd hr (Nat.not_lt_zero _)⟩
theorem zMIv_0 : zMIv zS0 zI0 zA0 := by
  refine ⟨fun k hk => ?_, fun s _ => zVl_Fe (by decide), ⟨Nat.zero_le _, rfl, fun j H hj => by cases hj⟩, ⟨Nat.zero_le _, rfl, fun i hi => absurd hi (Nat.not_lt_zero _)⟩, ⟨Nat.zero_le _, rfl, fun i hi => absurd hi (Nat.not_lt_zero _)⟩, rfl, rfl⟩
  unfold zEs
  show (0 : Int32) = nI (zEn (zFe 0) _)
  rw [zEn_0]
  rfl
theorem l_law {X : zX} {kc ks : Nat} (hX : zsL X ≤ 3072) (hk : 627 ≤ kc) (hks : 13168 ≤ ks) : zRn X 91 kc ks ML_law 0 [some (.ref zSc), none, none, none] [] [] (fun v _ => v = some (.int 1)) := by
  refine bL_law_0 ⟨⟨by decide, by omega, by omega⟩, 4, 97, 4888, _, by decide, by omega, by omega, c_gauge, ?_⟩
  rintro v w1 ⟨rfl, rfl⟩
  refine ⟨rfl, ?_⟩
  have hg : (zO 10 [.ref 1, .ref 17, .ref 22, .ref 75, .ref 77, .ref 79, .ref 80, .ref 84, .ref 87, .ref 89, .ref 96] :: zG10).length = 98 := gl10 _
  refine ⟨⟨by rw [hg]; decide, by omega, by omega⟩, 1, 16, 5680, _, by decide, by omega, by omega, c_model (by rw [hg]; decide), ?_⟩
  rintro v w1 ⟨rfl, rfl⟩
  refine ⟨rfl, ?_⟩
  rw [hg]
  exact l_loop hX 512 0 zS0 zI0 zA0 [] _ _ (by decide) (by omega) (by omega) (by omega) (by decide) zCI_0 zMIv_0
