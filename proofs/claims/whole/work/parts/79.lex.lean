/-! ===== told: the tokens ===== -/
def zrn (p : Nat → Bool) : Nat → Nat → Nat
  | 0, i => i
  | k + 1, i => if p i = true then zrn p k (i + 1) else i
def zre (p : Nat → Bool) (N i : Nat) : Nat := zrn p (N - i) i
theorem zre_y {p : Nat → Bool} {N i : Nat} (h : i < N) (hp : p i = true) : zre p N i = zre p N (i + 1) := by
  unfold zre
  rw [show N - i = (N - (i + 1)) + 1 by omega]
  show (if p i = true then _ else _) = _
  rw [if_pos hp]
theorem zre_n {p : Nat → Bool} {N i : Nat} (h : ¬ (i < N ∧ p i = true)) : zre p N i = i := by
  unfold zre
  rcases Nat.lt_or_ge i N with q | q
  · rw [show N - i = (N - (i + 1)) + 1 by omega]
    show (if p i = true then _ else _) = _
    rw [if_neg (fun z => h ⟨q, z⟩)]
  · rw [show N - i = 0 by omega]
    rfl
theorem zre_all {p : Nat → Bool} {N : Nat} : ∀ i, i ≤ N → i ≤ zre p N i ∧ zre p N i ≤ N ∧ ∀ j, i ≤ j → j < zre p N i → p j = true := by
  refine zdown ?_ ?_
  · rw [zre_n (by omega)]
    exact ⟨Nat.le_refl _, Nat.le_refl _, fun j h1 h2 => by omega⟩
  · rintro i hi ⟨h1, h2, h3⟩
    by_cases c : p i = true
    · rw [zre_y hi c]
      refine ⟨by omega, h2, fun j g1 g2 => ?_⟩
      by_cases e : j = i
      · rw [e]
        exact c
      · exact h3 j (by omega) g2
    · rw [zre_n (fun z => c z.2)]
      exact ⟨Nat.le_refl _, by omega, fun j g1 g2 => by omega⟩
def zlo (f : Nat → Nat) (lo hi : Nat) (i : Nat) : Bool := decide (lo ≤ f i ∧ f i ≤ hi)
def zbl (f : Nat → Nat) (i : Nat) : Bool := decide (f i = 32 ∨ f i = 10)
abbrev zTok : Type := Nat × Nat × Nat
def zLex (T : zBy) (i : Nat) : zTok :=
  if T.1 ≤ zre (zbl T.2) T.1 i then (0, zre (zbl T.2) T.1 i, zre (zbl T.2) T.1 i)
  else if zlo T.2 97 122 (zre (zbl T.2) T.1 i) = true then (1, zre (zbl T.2) T.1 i, zre (zlo T.2 97 122) T.1 (zre (zbl T.2) T.1 i))
  else if zlo T.2 48 57 (zre (zbl T.2) T.1 i) = true then (2, zre (zbl T.2) T.1 i, zre (zlo T.2 48 57) T.1 (zre (zbl T.2) T.1 i))
  else (3, zre (zbl T.2) T.1 i, zre (zbl T.2) T.1 i + 1)
def znx (T : zBy) (tk : zTok) : zTok := zLex T tk.2.2
def zTV (T : zBy) (tk : zTok) : Prop := tk.2.1 ≤ tk.2.2 ∧ tk.2.2 ≤ T.1 ∧ (tk.1 ≠ 0 → tk.2.1 < tk.2.2) ∧ (tk.1 = 2 → ∀ j, tk.2.1 ≤ j → j < tk.2.2 → 48 ≤ T.2 j ∧ T.2 j ≤ 57) ∧ tk.1 < 4
theorem zLex_v {T : zBy} {i : Nat} (hi : i ≤ T.1) : zTV T (zLex T i) ∧ i ≤ (zLex T i).2.1 := by
  obtain ⟨h1, h2, -⟩ := zre_all (p := zbl T.2) i hi
  unfold zLex
  generalize zre (zbl T.2) T.1 i = s at h1 h2
  by_cases c : T.1 ≤ s
  · rw [if_pos c]
    exact ⟨⟨Nat.le_refl _, h2, fun h => absurd rfl h, fun h => absurd (show (0 : Nat) = 2 from h) (by decide), show (0 : Nat) < 4 by decide⟩, h1⟩
  · rw [if_neg c]
    by_cases c1 : zlo T.2 97 122 s = true
    · rw [if_pos c1]
      obtain ⟨g1, g2, -⟩ := zre_all (p := zlo T.2 97 122) s h2
      have g3 := (zre_all (p := zlo T.2 97 122) (N := T.1) (s + 1) (by omega)).1
      rw [← zre_y (by omega) c1] at g3
      exact ⟨⟨g1, g2, fun _ => g3, fun h => absurd (show (1 : Nat) = 2 from h) (by decide), show (1 : Nat) < 4 by decide⟩, h1⟩
    · rw [if_neg c1]
      by_cases c2 : zlo T.2 48 57 s = true
      · rw [if_pos c2]
        obtain ⟨g1, g2, g4⟩ := zre_all (p := zlo T.2 48 57) s h2
        have g3 := (zre_all (p := zlo T.2 48 57) (N := T.1) (s + 1) (by omega)).1
        rw [← zre_y (by omega) c2] at g3
        exact ⟨⟨g1, g2, fun _ => g3, fun _ j j1 j2 => of_decide_eq_true (g4 j j1 j2), show (2 : Nat) < 4 by decide⟩, h1⟩
      · rw [if_neg c2]
        exact ⟨⟨Nat.le_succ _, by simp only []; omega, fun _ => Nat.lt_succ_self _, fun h => absurd (show (3 : Nat) = 2 from h) (by decide), show (3 : Nat) < 4 by decide⟩, h1⟩
def zvl (T : zBy) (s : Nat) : Nat → Nat
  | 0 => 0
  | k + 1 => if 1000 < 10 * zvl T s k + T.2 (s + k) - 48 then 1000 else 10 * zvl T s k + T.2 (s + k) - 48
theorem zvl_le (T : zBy) (s : Nat) : ∀ k, zvl T s k ≤ 1000
  | 0 => Nat.zero_le _
  | k + 1 => by
    show (if _ then _ else _) ≤ 1000
    split <;> omega
def zva (T : zBy) (tk : zTok) : Nat := if tk.1 = 2 then zvl T tk.2.1 (tk.2.2 - tk.2.1) else 0
/- the class -/
def zCt (tk : zTok) (I : zF2) : Prop := I 79 1 = nI tk.1 ∧ I 79 2 = nI tk.2.1 ∧ I 79 3 = nI tk.2.2
def zF9 (I I' : zF2) : Prop := (∀ p, p ≠ 79 → I' p = I p) ∧ I' 79 4 = I 79 4 ∧ I' 79 5 = I 79 5
theorem zF9.trans {I I' I2 : zF2} (h : zF9 I I') (g : zF9 I' I2) : zF9 I I2 := ⟨fun p hp => (g.1 p hp).trans (h.1 p hp), g.2.1.trans h.2.1, g.2.2.trans h.2.2⟩
abbrev zI9 (I : zF2) (k : Nat) (x : Int32) : zF2 := va_up I 79 (upd (I 79) k x)
theorem zI9_eq (I : zF2) (k : Nat) (x : Int32) : zI9 I k x 79 k = x := by simp [zI9, va_up, upd]
theorem zI9_ne (I : zF2) {k j : Nat} (x : Int32) (h : j ≠ k) : zI9 I k x 79 j = I 79 j := by simp [zI9, va_up, upd, h]
theorem zI9_s (I : zF2) (k : Nat) (c c' : Int32) : va_up (zI9 I k c) 79 (upd (zI9 I k c 79) k c') = zI9 I k c' := by
  unfold zI9
  rw [zup_eq, bx_uu, upd_uu]
theorem zI9_f (I : zF2) {k : Nat} (x : Int32) (h : k < 4) : zF9 I (zI9 I k x) := ⟨fun p hp => zup_ne hp, zI9_ne I x (by omega), zI9_ne I x (by omega)⟩
theorem zF9.tp {I I' A : zF2} {T : zBy} (h : zF9 I I') (g : zTp I A 75 76 400 T) : zTp I' A 75 76 400 T := ⟨g.1, by rw [h.1 75 (by decide)]; exact g.2.1, g.2.2⟩
section ZLx
variable {X : zX} {I A : zF2} {t : zW} {T : zBy} {tk : zTok} {w : zW}
theorem v_tapeAt (hT : zTp I A 75 76 400 T) {i : Nat} (hi : i ≤ 400) : zRd X 0 MX0_byteAt [.ref 75, .int (nI i)] (zWd I A t) (if i < T.1 then nI (T.2 i) else -1) := by
  obtain ⟨t1, t2, t3⟩ := hT
  refine eX0_byteAt _ _ (bX0_byteAt_0 _ _ ?_)
  rw [if_neg (nI_pos (by omega))]
  refine ⟨_, fi_75_1.rd, ?_⟩
  rw [t2, zi_le (by omega) (by omega)]
  by_cases c : T.1 ≤ i
  · rw [if_pos c, if_neg (by omega)]
    exact ⟨rfl, rfl⟩
  · rw [if_neg c, if_pos (by omega)]
    refine ⟨_, fr_75_0.rd, _, ar_76.rd (by omega), ?_⟩
    rw [(t3 i (by omega)).1]
    exact ⟨rfl, rfl⟩
theorem v_tapeN (hT : zTp I A 75 76 400 T) {i : Nat} (hi : i < T.1) : zRd X 0 MX0_byteAt [.ref 75, .int (nI i)] (zWd I A t) (nI (T.2 i)) := by
  have := v_tapeAt (X := X) (t := t) hT (i := i) (by have := hT.1; omega)
  rw [if_pos hi] at this
  exact this
theorem v_tsize (hT : zTp I A 75 76 400 T) : zRd X 0 MX0_size [.ref 75] (zWd I A t) (nI T.1) := by
  have := v_bsize (X := X) (I := I) (A := A) (t := t) tT75
  rw [hT.2.1] at this
  exact this
theorem v_isBlank {b : Nat} (hb : b < 256) : zRd X 0 MX7_isBlank [.int (nI b)] w (zB (decide (b = 32 ∨ b = 10))) := by
  refine eX7_isBlank _ (bX7_isBlank_0 _ ?_)
  show if nI b = nI 32 then _ else if nI b = nI 10 then _ else _
  rw [zi_eq (by omega) (by decide), zi_eq (by omega) (by decide)]
  by_cases c1 : b = 32
  · rw [if_pos c1, decide_eq_true (Or.inl c1)]
    exact bX7_isBlank_12 ⟨rfl, rfl⟩
  · rw [if_neg c1]
    by_cases c2 : b = 10
    · rw [if_pos c2, decide_eq_true (Or.inr c2)]
      exact bX7_isBlank_12 ⟨rfl, rfl⟩
    · rw [if_neg c2, decide_eq_false (by omega)]
      exact ⟨rfl, rfl⟩
theorem v_runEnd (hT : zTp I A 75 76 400 T) {s lo hi : Nat} (hs : I 79 2 = nI s) (hsN : s ≤ T.1) (hlo : lo < 256) (hhi : hi < 256) : zRd X 1 MX7_runEnd [.ref 79, .int (nI lo), .int (nI hi)] (zWd I A t) (nI (zre (zlo T.2 lo hi) T.1 s)) := by
  have h4 := hT.1
  refine eX7_runEnd _ _ _ (bX7_runEnd_0 _ _ _ ⟨_, fi_79_2.rd, ?_⟩)
  rw [hs]
  have key : ∀ i, i ≤ T.1 → zre (zlo T.2 lo hi) T.1 i = zre (zlo T.2 lo hi) T.1 s → zRn X 1 0 0 MX7_runEnd 5 [some (.ref 79), some (.int (nI lo)), some (.int (nI hi)), some (.int (nI i))] [] (zWd I A t) (fun v w1 => v = some (.int (nI (zre (zlo T.2 lo hi) T.1 s))) ∧ w1 = zWd I A t) := by
    refine zdown ?_ ?_
    · intro e
      refine bX7_runEnd_5 _ _ _ _ ⟨_, fr_79_0.rd, zvRd ob_75 (v_tsize hT) (by decide) ?_⟩
      rw [if_pos (Int32.le_refl _), ← e, zre_n (by omega)]
      exact ⟨rfl, rfl⟩
    · intro i hi2 ih e
      have hb := (hT.2.2 i hi2).2
      refine bX7_runEnd_5 _ _ _ _ ⟨_, fr_79_0.rd, zvRd ob_75 (v_tsize hT) (by decide) ?_⟩
      rw [zi_le (by omega) (by omega), if_neg (by omega)]
      refine ⟨_, fr_79_0.rd, zvRd ob_75 (v_tapeN hT hi2) (by decide) ?_⟩
      rw [zi_lt (by omega) (by omega)]
      by_cases c : T.2 i < lo
      · rw [if_pos c, ← e, zre_n (fun z => by have := of_decide_eq_true z.2; omega)]
        exact ⟨rfl, rfl⟩
      · rw [if_neg c]
        refine ⟨_, fr_79_0.rd, zvRd ob_75 (v_tapeN hT hi2) (by decide) ?_⟩
        rw [zi_lt (by omega) (by omega)]
        by_cases c2 : hi < T.2 i
        · rw [if_pos c2, ← e, zre_n (fun z => by have := of_decide_eq_true z.2; omega)]
          exact ⟨rfl, rfl⟩
        · rw [if_neg c2, nI_1]
          refine ih ?_
          rw [← e, zre_y hi2 (decide_eq_true (by omega))]
  exact key s hsN rfl
theorem v_advance (hT : zTp I A 75 76 400 T) {i : Nat} (hi : I 79 3 = nI i) (hN : i ≤ T.1) : zEv X 2 0 0 MX7_advance [.ref 79] (zWd I A t) (fun v w1 => v = none ∧ ∃ I', w1 = zWd I' A t ∧ zCt (zLex T i) I' ∧ zF9 I I') := by
  have h4 := hT.1
  refine eX7_advance _ (bX7_advance_0 _ ⟨_, fi_79_3.rd, _, fi_79_2.wr, ?_⟩)
  rw [hi]
  obtain ⟨z1, z2, -⟩ := zre_all (p := zbl T.2) (N := T.1) i hN
  have fin : zRn X 2 0 0 MX7_advance 52 [some (.ref 79), none] [] (zWd (zI9 I 2 (nI (zre (zbl T.2) T.1 i))) A t) (fun v w1 => v = none ∧ ∃ I', w1 = zWd I' A t ∧ zCt (zLex T i) I' ∧ zF9 I I') := by
    unfold zLex
    generalize zre (zbl T.2) T.1 i = s at z1 z2
    have hf : zF9 I (zI9 I 2 (nI s)) := zI9_f I _ (by decide)
    refine bX7_advance_52 _ ⟨_, fr_79_0.rd, _, fi_79_2.rd, ?_⟩
    rw [zI9_eq]
    refine zvRd ob_75 (v_tapeAt (hf.tp hT) (by omega)) (by decide) ?_
    by_cases c : T.1 ≤ s
    · rw [if_neg (show ¬ s < T.1 by omega), if_pos c, if_pos rfl]
      refine ⟨_, fi_79_1.wr, _, fi_79_2.rd, _, fi_79_3.wr, rfl, _, rfl, ⟨?_, ?_, ?_⟩, (hf.trans (zI9_f _ _ (by decide))).trans (zI9_f _ _ (by decide))⟩
      · exact (zI9_ne _ _ (by decide)).trans (zI9_eq _ _ _)
      · exact (zI9_ne _ _ (by decide)).trans ((zI9_ne _ _ (by decide)).trans (zI9_eq _ _ _))
      · exact (zI9_eq _ _ _).trans ((zI9_ne _ _ (by decide)).trans (zI9_eq _ _ _))
    · have hb := (hT.2.2 s (by omega)).2
      rw [if_pos (show s < T.1 by omega), if_neg c, if_neg (by
        intro e
        have : nI (T.2 s) < 0 := by rw [e]; decide
        exact nI_pos (by omega) this)]
      show if nI (T.2 s) < nI 97 then _ else if nI 122 < nI (T.2 s) then _ else _
      rw [zi_lt (by omega) (by decide), zi_lt (by decide) (by omega)]
      have rest : zlo T.2 97 122 s = false → zRn X 2 0 0 MX7_advance 117 [some (.ref 79), some (.int (nI (T.2 s)))] [] (zWd (zI9 I 2 (nI s)) A t) (fun v w1 => v = none ∧ ∃ I', w1 = zWd I' A t ∧ zCt (if zlo T.2 97 122 s = true then (1, s, zre (zlo T.2 97 122) T.1 s) else if zlo T.2 48 57 s = true then (2, s, zre (zlo T.2 48 57) T.1 s) else (3, s, s + 1)) I' ∧ zF9 I I') := by
        intro e1
        rw [if_neg (by rw [e1]; decide)]
        refine bX7_advance_117 _ _ ?_
        show if nI (T.2 s) < nI 48 then _ else if nI 57 < nI (T.2 s) then _ else _
        rw [zi_lt (by omega) (by decide), zi_lt (by decide) (by omega)]
        have rest2 : zlo T.2 48 57 s = false → zRn X 2 0 0 MX7_advance 149 [some (.ref 79), none] [] (zWd (zI9 I 2 (nI s)) A t) (fun v w1 => v = none ∧ ∃ I', w1 = zWd I' A t ∧ zCt (if zlo T.2 48 57 s = true then (2, s, zre (zlo T.2 48 57) T.1 s) else (3, s, s + 1)) I' ∧ zF9 I I') := by
          intro e2
          rw [if_neg (by rw [e2]; decide)]
          refine bX7_advance_149 _ ⟨_, fi_79_1.wr, _, fi_79_2.rd, _, fi_79_3.wr, rfl, _, rfl, ⟨?_, ?_, ?_⟩, (hf.trans (zI9_f _ _ (by decide))).trans (zI9_f _ _ (by decide))⟩
          · exact (zI9_ne _ _ (by decide)).trans (zI9_eq _ _ _)
          · exact (zI9_ne _ _ (by decide)).trans ((zI9_ne _ _ (by decide)).trans (zI9_eq _ _ _))
          · refine (zI9_eq _ _ _).trans ?_
            rw [show va_up (zI9 I 2 (nI s)) 79 (upd (zI9 I 2 (nI s) 79) 1 3) 79 2 = nI s from (zI9_ne _ _ (by decide)).trans (zI9_eq _ _ _), nI_1]
        by_cases c3 : T.2 s < 48
        · rw [if_pos c3]
          exact rest2 (decide_eq_false (by omega))
        · rw [if_neg c3]
          by_cases c4 : 57 < T.2 s
          · rw [if_pos c4]
            exact rest2 (decide_eq_false (by omega))
          · rw [if_neg c4, if_pos (show zlo T.2 48 57 s = true from decide_eq_true (by omega))]
            have hf2 := hf.trans (zI9_f (zI9 I 2 (nI s)) (k := 1) 2 (by decide))
            refine ⟨_, fi_79_1.wr, zvRd ob_79 (v_runEnd (hi := 57) (lo := 48) (hf2.tp hT) (s := s) ?_ (by omega) (by decide) (by decide)) (by decide) ⟨_, fi_79_3.wr, rfl, _, rfl, ⟨?_, ?_, ?_⟩, hf2.trans (zI9_f _ _ (by decide))⟩⟩
            · exact (zI9_ne _ _ (by decide)).trans (zI9_eq _ _ _)
            · exact (zI9_ne _ _ (by decide)).trans (zI9_eq _ _ _)
            · exact (zI9_ne _ _ (by decide)).trans ((zI9_ne _ _ (by decide)).trans (zI9_eq _ _ _))
            · exact zI9_eq _ _ _
      by_cases c3 : T.2 s < 97
      · rw [if_pos c3]
        exact rest (decide_eq_false (by omega))
      · rw [if_neg c3]
        by_cases c4 : 122 < T.2 s
        · rw [if_pos c4]
          exact rest (decide_eq_false (by omega))
        · rw [if_neg c4, if_pos (show zlo T.2 97 122 s = true from decide_eq_true (by omega))]
          have hf2 := hf.trans (zI9_f (zI9 I 2 (nI s)) (k := 1) 1 (by decide))
          refine ⟨_, fi_79_1.wr, zvRd ob_79 (v_runEnd (hi := 122) (lo := 97) (hf2.tp hT) (s := s) ?_ (by omega) (by decide) (by decide)) (by decide) ⟨_, fi_79_3.wr, rfl, _, rfl, ⟨?_, ?_, ?_⟩, hf2.trans (zI9_f _ _ (by decide))⟩⟩
          · exact (zI9_ne _ _ (by decide)).trans (zI9_eq _ _ _)
          · exact (zI9_ne _ _ (by decide)).trans (zI9_eq _ _ _)
          · exact (zI9_ne _ _ (by decide)).trans ((zI9_ne _ _ (by decide)).trans (zI9_eq _ _ _))
          · exact zI9_eq _ _ _
  have key : ∀ j, j ≤ T.1 → zre (zbl T.2) T.1 j = zre (zbl T.2) T.1 i → zRn X 2 0 0 MX7_advance 8 [some (.ref 79), none] [] (zWd (zI9 I 2 (nI j)) A t) (fun v w1 => v = none ∧ ∃ I', w1 = zWd I' A t ∧ zCt (zLex T i) I' ∧ zF9 I I') := by
    refine zdown ?_ ?_
    · intro e
      have hf : zF9 I (zI9 I 2 (nI T.1)) := zI9_f I _ (by decide)
      rw [zre_n (by omega)] at e
      refine bX7_advance_8 _ ⟨_, fi_79_2.rd, _, fr_79_0.rd, zvRd ob_75 (v_tsize (hf.tp hT)) (by decide) ?_⟩
      rw [zI9_eq, if_pos (Int32.le_refl _)]
      rw [← e] at fin
      exact fin
    · intro j hj ih e
      have hf : zF9 I (zI9 I 2 (nI j)) := zI9_f I _ (by decide)
      have hb := (hT.2.2 j hj).2
      refine bX7_advance_8 _ ⟨_, fi_79_2.rd, _, fr_79_0.rd, zvRd ob_75 (v_tsize (hf.tp hT)) (by decide) ?_⟩
      rw [zI9_eq, zi_le (by omega) (by omega), if_neg (by omega)]
      refine ⟨_, fr_79_0.rd, _, fi_79_2.rd, ?_⟩
      rw [zI9_eq]
      refine zvRd ob_75 (v_tapeN (hf.tp hT) hj) (by decide) (zcRd (v_isBlank hb) (by decide) ?_)
      rw [zB_ifP]
      by_cases c : T.2 j = 32 ∨ T.2 j = 10
      · rw [if_pos c]
        refine ⟨_, fi_79_2.rd, _, fi_79_2.wr, ?_⟩
        rw [zI9_eq, nI_1, zI9_s]
        refine ih ?_
        rw [← e, zre_y hj (decide_eq_true c)]
      · rw [if_neg c]
        rw [zre_n (fun z => c (of_decide_eq_true z.2))] at e
        rw [← e] at fin
        exact fin
  exact key i hN rfl
end ZLx
