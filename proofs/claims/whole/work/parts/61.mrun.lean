/-! ===== the reference's search; dimension ===== -/
abbrev zSB (A : zF2) (Ah Pl Md : Nat → Int32) : zF2 := va_up (va_up (va_up A 110 Ah) 111 Pl) 106 Md
theorem zSB_110 (A : zF2) (Ah Pl Md : Nat → Int32) : zSB A Ah Pl Md 110 = Ah := by unfold zSB; rw [zup_ne (by decide), zup_ne (by decide), zup_eq]
theorem zSB_111 (A : zF2) (Ah Pl Md : Nat → Int32) : zSB A Ah Pl Md 111 = Pl := by unfold zSB; rw [zup_ne (by decide), zup_eq]
theorem zSB_106 (A : zF2) (Ah Pl Md : Nat → Int32) : zSB A Ah Pl Md 106 = Md := zup_eq
theorem zSB_ot (A : zF2) (Ah Pl Md : Nat → Int32) {p : Nat} (h1 : p ≠ 110) (h2 : p ≠ 111) (h3 : p ≠ 106) : zSB A Ah Pl Md p = A p := by unfold zSB; rw [zup_ne h3, zup_ne h2, zup_ne h1]
theorem zSB_s110 (A : zF2) (Ah Pl Md Ah' : Nat → Int32) : va_up (zSB A Ah Pl Md) 110 Ah' = zSB A Ah' Pl Md := by
  unfold zSB
  rw [zup_comm _ (by decide), zup_comm _ (show (111 : Nat) ≠ 110 by decide), bx_uu]
theorem zSB_s111 (A : zF2) (Ah Pl Md Pl' : Nat → Int32) : va_up (zSB A Ah Pl Md) 111 Pl' = zSB A Ah Pl' Md := by
  unfold zSB
  rw [zup_comm _ (by decide), bx_uu]
theorem zSB_s106 (A : zF2) (Ah Pl Md Md' : Nat → Int32) : va_up (zSB A Ah Pl Md) 106 Md' = zSB A Ah Pl Md' := by
  unfold zSB
  rw [bx_uu]
theorem zSB_id (A : zF2) : zSB A (A 110) (A 111) (A 106) = A := by
  unfold zSB
  rw [zup_self, zup_self, zup_self]
theorem zSB_H {A : zF2} {s n R : Nat} {u : Nat → Nat} {h : Nat → Nat → Nat} (H : zMR A s n u R h) (Ah Pl Md : Nat → Int32) : zMR (zSB A Ah Pl Md) s n u R h := ((H.up (p := 110) (by decide)).up (p := 111) (by decide)).up (p := 106) (by decide)
/-- who comes behind whom in place p: by u and by the first m twos -/
def zEp (u : Nat → Nat) (T : List (Nat × Nat)) (pl : Nat → Nat) (p : Nat) : Nat → Nat → Nat
  | 0 => u
  | m + 1 => match T[m]? with
    | some (a, b) => if pl m = p then va_up (zEp u T pl p m) a (zEp u T pl p m a ||| 2 ^ b) else zEp u T pl p m
    | none => zEp u T pl p m
theorem zEp_s {u : Nat → Nat} {T : List (Nat × Nat)} {pl : Nat → Nat} {p m a b : Nat} (h : T[m]? = some (a, b)) : zEp u T pl p (m + 1) = if pl m = p then va_up (zEp u T pl p m) a (zEp u T pl p m a ||| 2 ^ b) else zEp u T pl p m := by
  show (match T[m]? with
    | some (a, b) => if pl m = p then va_up (zEp u T pl p m) a (zEp u T pl p m a ||| 2 ^ b) else zEp u T pl p m
    | none => zEp u T pl p m) = _
  rw [h]
theorem zEp_cong {u : Nat → Nat} {T : List (Nat × Nat)} {pl pl' : Nat → Nat} {p : Nat} : ∀ m, (∀ j, j < m → pl j = pl' j) → zEp u T pl p m = zEp u T pl' p m
  | 0, _ => rfl
  | m + 1, h => by
    have ih := zEp_cong (u := u) (T := T) (p := p) m (fun j hj => h j (by omega))
    cases hT : T[m]? with
    | none =>
      show (match T[m]? with
        | some (a, b) => if pl m = p then va_up (zEp u T pl p m) a (zEp u T pl p m a ||| 2 ^ b) else zEp u T pl p m
        | none => zEp u T pl p m) = (match T[m]? with
        | some (a, b) => if pl' m = p then va_up (zEp u T pl' p m) a (zEp u T pl' p m a ||| 2 ^ b) else zEp u T pl' p m
        | none => zEp u T pl' p m)
      rw [hT]
      exact ih
    | some ab =>
      obtain ⟨a, b⟩ := ab
      rw [zEp_s hT, zEp_s hT, ih, h m (by omega)]
theorem zEp_lt {n : Nat} {u : Nat → Nat} {T : List (Nat × Nat)} {pl : Nat → Nat} {p : Nat} (hu : ∀ x, u x < 2 ^ n) (hT : ∀ a b, (a, b) ∈ T → a < n ∧ b < n ∧ a ≠ b) : ∀ m x, zEp u T pl p m x < 2 ^ n
  | 0, x => hu x
  | m + 1, x => by
    have ih := zEp_lt (pl := pl) (p := p) hu hT m
    cases hm : T[m]? with
    | none =>
      show (match T[m]? with
        | some (a, b) => if pl m = p then va_up (zEp u T pl p m) a (zEp u T pl p m a ||| 2 ^ b) else zEp u T pl p m
        | none => zEp u T pl p m) x < 2 ^ n
      rw [hm]
      exact ih x
    | some ab =>
      obtain ⟨a, b⟩ := ab
      have hb := (hT a b (List.mem_of_getElem? hm)).2.1
      rw [zEp_s hm]
      split
      · by_cases e : x = a
        · rw [e, zup_eq]
          exact zor_lt (ih a) hb
        · rw [zup_ne e]
          exact ih x
      · exact ih x
def zSV (r : zSR) : Int32 := if r.1 = 0 then 0 else if r.1 = 1 then 1 else -3
def zgo (n : Nat) (E : Nat → Nat) : Bool := zall n (fun i => decide (zgp n E i < n))
section ZMs
variable {X : zX} {I A : zF2} {t : zW} {s n R : Nat} {u : Nat → Nat} {h : Nat → Nat → Nat} {T : List (Nat × Nat)}
theorem m_laysPlace (H : zMR A s n u R h) (hT : zTw (A 108) (A 109) T) (hTl : T.length ≤ 56) (hTm : ∀ a b, (a, b) ∈ T → a < n ∧ b < n ∧ a ≠ b) {pl : Nat → Nat} {m p : Nat} (hm : m ≤ T.length) (hp : p < 4) (hpl : ∀ j, j < m → pl j < 4) (Ah Pl Md : Nat → Int32) (hPl : ∀ j, j < m → Pl j = nI (pl j)) : zEv X 2 0 0 MX12_laysPlace [.ref 98, .int (nI s), .int (nI p), .int (nI m), .ref 111] (zWd I (zSB A Ah Pl Md) t) (fun v w1 => v = none ∧ ∃ Ah', w1 = zWd I (zSB A Ah' Pl Md) t ∧ ∀ x, x < n → Ah' (8 * p + x) = nI (zEp u T pl p m x)) := by
  have h8 := H.2.1.1
  have h28 := z28 h8
  have adr : ∀ x, (8 : Int32) * nI p + nI x = nI (8 * p + x) := fun x => by
    show nI 8 * nI p + nI x = _
    rw [pk_mul, nI_add]
  refine eX12_laysPlace _ _ _ _ _ (bX12_laysPlace_0 _ _ _ _ _ ?_)
  have second : ∀ j, j ≤ m → ∀ Ah : Nat → Int32, (∀ x, x < n → Ah (8 * p + x) = nI (zEp u T pl p j x)) → zRn X 2 0 0 MX12_laysPlace 41 [some (.ref 98), none, some (.int (nI p)), some (.int (nI m)), some (.ref 111), some (.int (nI j))] [] (zWd I (zSB A Ah Pl Md) t) (fun v w1 => v = none ∧ ∃ Ah', w1 = zWd I (zSB A Ah' Pl Md) t ∧ ∀ x, x < n → Ah' (8 * p + x) = nI (zEp u T pl p m x)) := by
    refine zdown ?_ ?_
    · intro Ah hA
      refine bX12_laysPlace_41 _ _ _ _ _ ?_
      rw [if_pos (Int32.le_refl _)]
      exact ⟨rfl, Ah, rfl, hA⟩
    · intro j hj ih Ah hA
      obtain ⟨a, b, e1, hmem⟩ := zlget (show j < T.length by omega)
      obtain ⟨t1, t2⟩ := hT j a b e1
      obtain ⟨ha, hb, -⟩ := hTm a b hmem
      have hj4 := hpl j hj
      have g0 : zaI (zWd I (zSB A Ah Pl Md) t) 111 (nI j) = some (nI (pl j)) := by rw [ar_111.rd (by omega), zSB_111, hPl j hj]
      have g1 : zaI (zWd I (zSB A Ah Pl Md) t) 108 (nI j) = some (nI a) := by rw [ar_108.rd (by omega), zSB_ot _ _ _ _ (by decide) (by decide) (by decide), t1]
      have g2 : zaI (zWd I (zSB A Ah Pl Md) t) 109 (nI j) = some (nI b) := by rw [ar_109.rd (by omega), zSB_ot _ _ _ _ (by decide) (by decide) (by decide), t2]
      have g3 : zaI (zWd I (zSB A Ah Pl Md) t) 110 ((8 : Int32) * nI p + nI a) = some (nI (zEp u T pl p j a)) := by rw [adr, ar_110.rd (by omega), zSB_110, hA a ha]
      rw [zEp_s e1] at ih
      refine bX12_laysPlace_41 _ _ _ _ _ ?_
      rw [zi_le (by omega) (by omega), if_neg (by omega)]
      refine ⟨_, g0, ?_⟩
      rw [zi_eq (by omega) (by omega)]
      by_cases c : pl j = p
      · rw [if_pos c]
        rw [if_pos c] at ih
        refine ⟨_, fr_98_22.rd, _, fr_98_19.rd, _, g1, _, g3, _, fr_98_20.rd, _, g2, zWd I (zSB A (upd Ah (8 * p + a) (nI (zEp u T pl p j a ||| 2 ^ b))) Pl Md) t, ?_, ?_⟩
        · rw [zb_1 b (by omega), zb_or, adr, ar_110.wr (by omega), zSB_110, zSB_s110]
        · refine bX12_laysPlace_85 _ _ _ _ _ ?_
          rw [nI_1]
          refine ih _ (fun x hx => ?_)
          by_cases e : x = a
          · rw [e, upd_eq, zup_eq]
          · rw [upd_ne _ _ (by omega), zup_ne e]
            exact hA x hx
      · rw [if_neg c]
        rw [if_neg c] at ih
        refine bX12_laysPlace_85 _ _ _ _ _ ?_
        rw [nI_1]
        exact ih Ah hA
  have first : ∀ x, x ≤ n → ∀ Ah : Nat → Int32, (∀ x', x' < x → Ah (8 * p + x') = nI (u x')) → zRn X 2 0 0 MX12_laysPlace 3 [some (.ref 98), some (.int (nI s)), some (.int (nI p)), some (.int (nI m)), some (.ref 111), some (.int (nI x))] [] (zWd I (zSB A Ah Pl Md) t) (fun v w1 => v = none ∧ ∃ Ah', w1 = zWd I (zSB A Ah' Pl Md) t ∧ ∀ x, x < n → Ah' (8 * p + x) = nI (zEp u T pl p m x)) := by
    refine zdown ?_ ?_
    · intro Ah hA
      refine bX12_laysPlace_3 _ _ _ _ _ _ (zvRd ob_98 (m_many (zSB_H H Ah Pl Md)) (by decide) ?_)
      rw [if_pos (Int32.le_refl _)]
      exact second 0 (Nat.zero_le _) Ah hA
    · intro x hx ih Ah hA
      refine bX12_laysPlace_3 _ _ _ _ _ _ (zvRd ob_98 (m_many (zSB_H H Ah Pl Md)) (by decide) ?_)
      rw [zi_le (by omega) (by omega), if_neg (by omega)]
      refine ⟨_, fr_98_22.rd, zvRd ob_98 (m_under (zSB_H H Ah Pl Md) (by omega)) (by decide) ⟨zWd I (zSB A (upd Ah (8 * p + x) (nI (u x))) Pl Md) t, ?_, ?_⟩⟩
      · rw [adr, ar_110.wr (by omega), zSB_110, zSB_s110]
      · rw [nI_1]
        refine ih _ (fun x' hx' => ?_)
        by_cases e : x' = x
        · rw [e, upd_eq]
        · rw [upd_ne _ _ (by omega)]
          exact hA x' (by omega)
  exact first 0 (Nat.zero_le _) Ah (fun x' hx' => absurd hx' (Nat.not_lt_zero _))
theorem m_laysRow (H : zMR A s n u R h) {E : Nat → Nat} {p : Nat} (hp : p < 4) (hE : ∀ x, E x < 2 ^ n) (Ah Pl Md : Nat → Int32) (hA : ∀ x, x < n → Ah (8 * p + x) = nI (E x)) : zEv X 2 0 0 MX12_laysRow [.ref 98, .int (nI s), .int (nI p)] (zWd I (zSB A Ah Pl Md) t) (fun v w1 => v = some (.int (zB (zgo n E))) ∧ ∃ Md', w1 = zWd I (zSB A Ah Pl Md') t ∧ (zgo n E = true → ∀ i, i < n → Md' i = nI (zgp n E i))) := by
  have h8 := H.2.1.1
  have h28 := z28 h8
  have adr : ∀ x, (8 : Int32) * nI p + nI x = nI (8 * p + x) := fun x => by
    show nI 8 * nI p + nI x = _
    rw [pk_mul, nI_add]
  refine eX12_laysRow _ _ _ (bX12_laysRow_0 _ _ _ ?_)
  have key : ∀ i, i ≤ n → (∀ j, j < i → zgp n E j < n) → ∀ Md : Nat → Int32, (∀ j, j < i → Md j = nI (zgp n E j)) → zRn X 2 0 0 MX12_laysRow 5 [some (.ref 98), some (.int (nI s)), some (.int (nI p)), some (.int (nI (zgs n E i))), some (.int (nI i)), none] [] (zWd I (zSB A Ah Pl Md) t) (fun v w1 => v = some (.int (zB (zgo n E))) ∧ ∃ Md', w1 = zWd I (zSB A Ah Pl Md') t ∧ (zgo n E = true → ∀ i, i < n → Md' i = nI (zgp n E i))) := by
    refine zdown ?_ ?_
    · intro hok Md hM
      refine bX12_laysRow_5 _ _ _ _ _ (zvRd ob_98 (m_many (zSB_H H Ah Pl Md)) (by decide) ?_)
      rw [if_pos (Int32.le_refl _)]
      have e : zgo n E = true := zall_iff.mpr (fun i hi => decide_eq_true (hok i hi))
      rw [e]
      exact ⟨rfl, Md, rfl, fun _ => hM⟩
    · intro i hi ih hok Md hM
      have hsl := (zgs_ok (E := E) h8 i (by omega) hok).1
      refine bX12_laysRow_5 _ _ _ _ _ (zvRd ob_98 (m_many (zSB_H H Ah Pl Md)) (by decide) ?_)
      rw [zi_le (by omega) (by omega), if_neg (by omega)]
      have hple : zgp n E i ≤ n := zfst_le _ n
      refine zdown (P := fun a => zRn X 2 0 0 MX12_laysRow 18 [some (.ref 98), some (.int (nI s)), some (.int (nI p)), some (.int (nI (zgs n E i))), some (.int (nI i)), some (.int (nI a))] [] (zWd I (zSB A Ah Pl Md) t) _) (n := zgp n E i) ?_ (fun a ha iha => ?_) 0 (Nat.zero_le _)
      · refine bX12_laysRow_18 _ _ _ _ _ _ (zvRd ob_98 (m_many (zSB_H H Ah Pl Md)) (by decide) ?_)
        rw [zi_le (by omega) (by omega)]
        by_cases hlt : zgp n E i < n
        · rw [if_neg (by omega)]
          obtain ⟨c1, c2⟩ := zgp_y hlt
          refine zcRd (m_has (by omega) (by omega)) (by decide) ?_
          rw [c1, if_pos (show zB false = 0 from rfl)]
          refine ⟨_, fr_98_22.rd, nI (E (zgp n E i)), ?_, ?_⟩
          · rw [adr, ar_110.rd (by omega), zSB_110, hA _ hlt]
          · rw [zb_df, c2, if_pos (show nI 0 = 0 from rfl)]
            refine bX12_laysRow_62 _ _ _ _ _ _ (zvRd ob_98 (m_many (zSB_H H Ah Pl Md)) (by decide) ?_)
            rw [zi_eq (by omega) (by omega), if_neg (by omega)]
            refine ⟨_, fr_98_17.rd, zWd I (zSB A Ah Pl (upd Md i (nI (zgp n E i)))) t, ?_, ?_⟩
            · rw [ar_106.wr (by omega), zSB_106, zSB_s106]
            · rw [zb_1 _ (by omega), zb_or, nI_1]
              refine ih (fun j hj => ?_) _ (fun j hj => ?_)
              · rcases Nat.lt_or_ge j i with z | z
                · exact hok j z
                · have : j = i := by omega
                  subst this
                  exact hlt
              · by_cases e : j = i
                · rw [e, upd_eq]
                · rw [upd_ne _ _ e]
                  exact hM j (by omega)
        · rw [if_pos (by omega)]
          refine bX12_laysRow_62 _ _ _ _ _ _ (zvRd ob_98 (m_many (zSB_H H Ah Pl Md)) (by decide) ?_)
          rw [zi_eq (by omega) (by omega), if_pos (by omega)]
          have e : zgo n E = false := zall_no hi (decide_eq_false hlt)
          rw [e]
          exact ⟨rfl, Md, rfl, fun z => by cases z⟩
      · have hno := zfst_no (fun a => !(zgs n E i).testBit a && decide (zdf (E a) (zgs n E i) = 0)) n a ha
        have next : zRn X 2 0 0 MX12_laysRow 56 [some (.ref 98), some (.int (nI s)), some (.int (nI p)), some (.int (nI (zgs n E i))), some (.int (nI i)), some (.int (nI a))] [] (zWd I (zSB A Ah Pl Md) t) (fun v w1 => v = some (.int (zB (zgo n E))) ∧ ∃ Md', w1 = zWd I (zSB A Ah Pl Md') t ∧ (zgo n E = true → ∀ i, i < n → Md' i = nI (zgp n E i))) := by
          refine bX12_laysRow_56 _ _ _ _ _ _ ?_
          rw [nI_1]
          exact iha
        have hz : zdf (E a) (zgs n E i) < 2 ^ n := zdf_lt (hE a)
        refine bX12_laysRow_18 _ _ _ _ _ _ (zvRd ob_98 (m_many (zSB_H H Ah Pl Md)) (by decide) ?_)
        rw [zi_le (by omega) (by omega), if_neg (by omega)]
        refine zcRd (m_has (by omega) (by omega)) (by decide) ?_
        rw [zB_if]
        by_cases c1 : (zgs n E i).testBit a = true
        · rw [if_pos c1]
          exact next
        · rw [if_neg c1]
          refine ⟨_, fr_98_22.rd, nI (E a), ?_, ?_⟩
          · rw [adr, ar_110.rd (by omega), zSB_110, hA a (by omega)]
          · rw [zb_df, zi_0 (by omega), if_neg]
            · exact next
            · intro z
              simp [c1, z] at hno
  exact key 0 (Nat.zero_le _) (fun j hj => absurd hj (Nat.not_lt_zero _)) Md (fun j hj => absurd hj (Nat.not_lt_zero _))
set_option maxHeartbeats 2000000 in
theorem m_searches (H : zMR A s n u R h) (hT : zTw (A 108) (A 109) T) (hI : I 98 21 = nI T.length) (hTl : T.length ≤ 56) (hTm : ∀ a b, (a, b) ∈ T → a < n ∧ b < n ∧ a ≠ b) {t4 tr : Nat} (ht4 : t4 ≤ 4) (htr : tr ≤ 100000) : ∀ (L : List (Nat × Nat)) (k : Nat), T.drop k = L → k ≤ T.length → ∀ (g c : Nat) (U : Nat → Nat → Nat) (pl : Nat → Nat), g ≤ 4 → c ≤ tr → (∀ j, j < k → pl j < 4) → (∀ p, p < 4 → zGe n (zEp u T pl p k) (U p)) → ∀ (Ah Pl Md : Nat → Int32), (∀ j, j < k → Pl j = nI (pl j)) →
    zEv X (3 + L.length) 0 0 MX12_searches [.ref 98, .int (nI s), .int (nI k), .int (nI g), .int (nI t4), .int (nI tr)] (zWd (zIf I 23 (nI c)) (zSB A Ah Pl Md) t) (fun v w1 => v = some (.int (zSV (zSe t4 tr L g c U))) ∧ ∃ Ah' Pl' Md', w1 = zWd (zIf I 23 (nI (zSe t4 tr L g c U).2.1)) (zSB A Ah' Pl' Md') t ∧ (∀ j, j < k → Pl' j = Pl j) ∧ ((zSe t4 tr L g c U).1 = 1 → ∃ pl' : Nat → Nat, (∀ j, j < T.length → pl' j < 4 ∧ Pl' j = nI (pl' j)) ∧ ∀ p, p < 4 → zGe n (zEp u T pl' p T.length) ((zSe t4 tr L g c U).2.2 p))) := by
  have h8 := H.2.1.1
  have hI2 : ∀ c : Int32, zIf I 23 c 98 21 = nI T.length := fun c => by rw [zIf_ne _ _ (by decide)]; exact hI
  intro L
  induction L with
  | nil =>
    intro k hk hkl g c U pl hg hc hpl hG Ah Pl Md hPl
    have e : k = T.length := by
      have := List.drop_eq_nil_iff.mp hk
      omega
    refine eX12_searches _ _ _ _ _ _ (bX12_searches_0 _ _ _ _ _ _ ⟨_, fi_98_21.rd, ?_⟩)
    rw [hI2, e, if_pos rfl]
    refine ⟨rfl, Ah, Pl, Md, rfl, fun _ _ => rfl, fun _ => ⟨pl, fun j hj => ⟨hpl j (by omega), hPl j (by omega)⟩, fun p hp => ?_⟩⟩
    rw [← e]
    exact hG p hp
  | cons ab L ih =>
    obtain ⟨a, b⟩ := ab
    intro k hk hkl g c U pl hg hc hpl hG Ah Pl Md hPl
    have e1 : T[k]? = some (a, b) := by
      have := congrArg (fun l => l[0]?) hk
      simpa [List.getElem?_drop] using this
    have hkl : k < T.length := (List.getElem?_eq_some_iff.mp e1).1
    have hk1 : T.drop (k + 1) = L := by
      have := congrArg (List.drop 1) hk
      rw [List.drop_drop] at this
      simpa [Nat.add_comm] using this
    obtain ⟨ha, hb, hab⟩ := hTm a b (List.mem_of_getElem? e1)
    rw [zSe_c]
    generalize hF : (fun p c => if zlt (U p) a b = true then (0, c, U) else zSe t4 tr L (max g (p + 1)) c (va_up U p (zln (U p) b a)) : Nat → Nat → zSR) = F
    have hFy : ∀ p c, zlt (U p) a b = true → F p c = (0, c, U) := fun p c z => by
      rw [← hF]
      exact if_pos z
    have hFn : ∀ p c, zlt (U p) a b = false → F p c = zSe t4 tr L (max g (p + 1)) c (va_up U p (zln (U p) b a)) := fun p c z => by
      rw [← hF]
      exact if_neg (by rw [z]; decide)
    refine eX12_searches _ _ _ _ _ _ (bX12_searches_0 _ _ _ _ _ _ ⟨_, fi_98_21.rd, ?_⟩)
    rw [hI2, zi_eq (by omega) (by omega), if_neg (by omega)]
    have loop : ∀ (j p c : Nat), p + j = min (g + 1) t4 → c ≤ tr → ∀ (Ah Pl2 Md : Nat → Int32), (∀ j, j < k → Pl2 j = Pl j) → zRn X (3 + (L.length + 1)) 0 0 MX12_searches 13 [some (.ref 98), some (.int (nI s)), some (.int (nI k)), some (.int (nI g)), some (.int (nI t4)), some (.int (nI tr)), some (.int (nI p)), none] [] (zWd (zIf I 23 (nI c)) (zSB A Ah Pl2 Md) t) (fun v w1 => v = some (.int (zSV (zsl F tr U j p c))) ∧ ∃ Ah' Pl' Md', w1 = zWd (zIf I 23 (nI (zsl F tr U j p c).2.1)) (zSB A Ah' Pl' Md') t ∧ (∀ j, j < k → Pl' j = Pl j) ∧ ((zsl F tr U j p c).1 = 1 → ∃ pl' : Nat → Nat, (∀ j, j < T.length → pl' j < 4 ∧ Pl' j = nI (pl' j)) ∧ ∀ p', p' < 4 → zGe n (zEp u T pl' p' T.length) ((zsl F tr U j p c).2.2 p'))) := by
      intro j
      induction j with
      | zero =>
        intro p c hpj hc Ah Pl2 Md hp2
        rw [zsl_0]
        refine bX12_searches_13 _ _ _ _ _ _ _ ?_
        rw [zi_lt (by omega) (by omega)]
        by_cases c1 : g < p
        · rw [if_pos c1]
          exact ⟨rfl, Ah, Pl2, Md, rfl, hp2, fun z => by cases z⟩
        · rw [if_neg c1, zi_le (by omega) (by omega), if_pos (by omega)]
          exact ⟨rfl, Ah, Pl2, Md, rfl, hp2, fun z => by cases z⟩
      | succ j jh =>
        intro p c hpj hc Ah Pl2 Md hp2
        rw [zsl_s]
        refine bX12_searches_13 _ _ _ _ _ _ _ ?_
        rw [zi_lt (by omega) (by omega), if_neg (by omega), zi_le (by omega) (by omega), if_neg (by omega)]
        refine ⟨_, fi_98_23.rd, ?_⟩
        rw [zIf_eq, zi_eq (by omega) (by omega)]
        by_cases hct : c = tr
        · rw [if_pos hct, if_pos hct]
          exact ⟨rfl, Ah, Pl2, Md, rfl, hp2, fun z => by cases z⟩
        · rw [if_neg hct, if_neg hct]
          refine ⟨_, fi_98_23.rd, ?_⟩
          rw [zIf_eq]
          refine ⟨_, fi_98_23.wr, ?_⟩
          rw [zIf_s, nI_1]
          refine ⟨_, fr_98_24.rd, zWd (zIf I 23 (nI (c + 1))) (zSB A Ah (upd Pl2 k (nI p)) Md) t, ?_, ?_⟩
          · rw [ar_111.wr (by omega), zSB_111, zSB_s111]
          · have hpl1 : ∀ j, j < k + 1 → va_up pl k p j < 4 := fun j hj => by
              by_cases e : j = k
              · rw [e, zup_eq]
                omega
              · rw [zup_ne e]
                exact hpl j (by omega)
            have hPl1 : ∀ j, j < k + 1 → upd Pl2 k (nI p) j = nI (va_up pl k p j) := fun j hj => by
              by_cases e : j = k
              · rw [e, zup_eq, upd_eq]
              · rw [zup_ne e, upd_ne _ _ e, hp2 j (by omega)]
                exact hPl j (by omega)
            have hp3 : ∀ j, j < k → upd Pl2 k (nI p) j = Pl j := fun j hj => by
              rw [upd_ne _ _ (by omega)]
              exact hp2 j hj
            have eE : ∀ p', zEp u T (va_up pl k p) p' k = zEp u T pl p' k := fun p' => zEp_cong k (fun j hj => zup_ne (by omega))
            have eE1 : zEp u T (va_up pl k p) p (k + 1) = va_up (zEp u T pl p k) a (zEp u T pl p k a ||| 2 ^ b) := by
              rw [zEp_s e1, zup_eq, if_pos rfl, eE]
            have ek : nI k + 1 = nI (k + 1) := by rw [nI_1]
            rw [ek]
            refine ⟨_, fr_98_24.rd, zvV (d1 := 2) ob_98 (m_laysPlace H hT hTl hTm (pl := va_up pl k p) (m := k + 1) (p := p) (by omega) (by omega) hpl1 Ah (upd Pl2 k (nI p)) Md hPl1) (by omega) ?_⟩
            rintro w1 ⟨Ah1, rfl, hAh1⟩
            refine zvI1 (d1 := 2) ob_98 (m_laysRow H (E := zEp u T (va_up pl k p) p (k + 1)) (p := p) (by omega) (zEp_lt H.2.1.2.1 hTm _) Ah1 (upd Pl2 k (nI p)) Md hAh1) (by omega) ?_
            rintro w2 ⟨Md1, rfl, -⟩
            rw [zB_if]
            have next : ∀ (c' : Nat) (Ah2 Pl3 Md2 : Nat → Int32), c' ≤ tr → (F p (c + 1)).1 = 0 → (F p (c + 1)).2.1 = c' → (∀ j, j < k → Pl3 j = Pl j) → zRn X (3 + (L.length + 1)) 0 0 MX12_searches 118 [some (.ref 98), some (.int (nI s)), some (.int (nI k)), some (.int (nI g)), some (.int (nI t4)), some (.int (nI tr)), some (.int (nI p)), none] [] (zWd (zIf I 23 (nI c')) (zSB A Ah2 Pl3 Md2) t) (fun v w1 => v = some (.int (zSV (if (F p (c + 1)).1 = 0 then zsl F tr U j (p + 1) (F p (c + 1)).2.1 else F p (c + 1)))) ∧ ∃ Ah' Pl' Md', w1 = zWd (zIf I 23 (nI (if (F p (c + 1)).1 = 0 then zsl F tr U j (p + 1) (F p (c + 1)).2.1 else F p (c + 1)).2.1)) (zSB A Ah' Pl' Md') t ∧ (∀ j, j < k → Pl' j = Pl j) ∧ ((if (F p (c + 1)).1 = 0 then zsl F tr U j (p + 1) (F p (c + 1)).2.1 else F p (c + 1)).1 = 1 → ∃ pl' : Nat → Nat, (∀ j, j < T.length → pl' j < 4 ∧ Pl' j = nI (pl' j)) ∧ ∀ p', p' < 4 → zGe n (zEp u T pl' p' T.length) ((if (F p (c + 1)).1 = 0 then zsl F tr U j (p + 1) (F p (c + 1)).2.1 else F p (c + 1)).2.2 p'))) := fun c' Ah2 Pl3 Md2 z0 z1 z2 z3 => by
              rw [if_pos z1, z2]
              refine bX12_searches_118 _ _ _ _ _ _ _ ?_
              rw [nI_1]
              exact jh (p + 1) c' (by omega) z0 Ah2 Pl3 Md2 z3
            cases hz : zlt (U p) a b
            · have hGs := zGe_s (hG p (by omega)) ha hb hab hz
              have hgo : zgo n (zEp u T (va_up pl k p) p (k + 1)) = true := zall_iff.mpr (fun i hi => decide_eq_true (by
                rw [eE1]
                exact zgp_ok hGs.1 hGs.2.1 i hi))
              rw [if_pos hgo]
              have hcall := ih (k + 1) hk1 (by omega) (max g (p + 1)) (c + 1) (va_up U p (zln (U p) b a)) (va_up pl k p) (by omega) (by omega) hpl1 (fun p' hp' => by
                by_cases e : p' = p
                · rw [e, eE1, zup_eq]
                  exact hGs
                · rw [zEp_s e1, zup_eq, if_neg (fun z => e z.symm), eE, zup_ne e]
                  exact hG p' hp') Ah1 (upd Pl2 k (nI p)) Md1 hPl1
              have hbd := zSe_bd (t := t4) (tr := tr) L (max g (p + 1)) (c + 1) (va_up U p (zln (U p) b a)) (by omega)
              rw [← hFn p (c + 1) hz] at hcall hbd
              have go : zRn X (3 + (L.length + 1)) 0 0 MX12_searches 101 [some (.ref 98), some (.int (nI s)), some (.int (nI k)), some (.int (nI g)), some (.int (nI t4)), some (.int (nI tr)), some (.int (nI p)), none] [.int (nI (max g (p + 1))), .int (nI (k + 1)), .int (nI s), .ref 98] (zWd (zIf I 23 (nI (c + 1))) (zSB A Ah1 (upd Pl2 k (nI p)) Md1) t) (fun v w1 => v = some (.int (zSV (if (F p (c + 1)).1 = 0 then zsl F tr U j (p + 1) (F p (c + 1)).2.1 else F p (c + 1)))) ∧ ∃ Ah' Pl' Md', w1 = zWd (zIf I 23 (nI (if (F p (c + 1)).1 = 0 then zsl F tr U j (p + 1) (F p (c + 1)).2.1 else F p (c + 1)).2.1)) (zSB A Ah' Pl' Md') t ∧ (∀ j, j < k → Pl' j = Pl j) ∧ ((if (F p (c + 1)).1 = 0 then zsl F tr U j (p + 1) (F p (c + 1)).2.1 else F p (c + 1)).1 = 1 → ∃ pl' : Nat → Nat, (∀ j, j < T.length → pl' j < 4 ∧ Pl' j = nI (pl' j)) ∧ ∀ p', p' < 4 → zGe n (zEp u T pl' p' T.length) ((if (F p (c + 1)).1 = 0 then zsl F tr U j (p + 1) (F p (c + 1)).2.1 else F p (c + 1)).2.2 p'))) := by
                refine bX12_searches_101 _ _ _ _ _ _ _ _ _ _ _ ⟨ob_98.is, _, _, ?_, hcall, ?_⟩
                · omega
                · rintro v w1 ⟨rfl, Ah2, Pl3, Md2, rfl, r1, r2⟩
                  refine ⟨_, rfl, ?_⟩
                  show if zSV (F p (c + 1)) = 0 then _ else _
                  by_cases z0 : (F p (c + 1)).1 = 0
                  · have e0 : zSV (F p (c + 1)) = 0 := by
                      unfold zSV
                      rw [if_pos z0]
                    rw [if_pos e0]
                    exact next _ Ah2 Pl3 Md2 hbd.2.1 z0 rfl (fun j hj => by rw [r1 j (by omega)]; exact hp3 j hj)
                  · have e0 : zSV (F p (c + 1)) ≠ 0 := by
                      unfold zSV
                      rw [if_neg z0]
                      split <;> decide
                    rw [if_neg e0, if_neg z0]
                    exact ⟨rfl, Ah2, Pl3, Md2, rfl, fun j hj => by rw [r1 j (by omega)]; exact hp3 j hj, r2⟩
              rw [zi_eq (by omega) (by omega), nI_1]
              by_cases e : p = g
              · rw [if_pos e, show g + 1 = max g (p + 1) by omega]
                exact go
              · rw [if_neg e]
                have e3 : max g (p + 1) = g := by omega
                rw [e3] at go
                exact go
            · have hgo : ¬ zgo n (zEp u T (va_up pl k p) p (k + 1)) = true := fun z => by
                rw [eE1] at z
                exact zgp_no (hG p (by omega)) ha hb hz (fun i hi => of_decide_eq_true (zall_iff.mp z i hi))
              rw [if_neg hgo]
              refine next (c + 1) Ah1 _ Md1 (by omega) ?_ ?_ hp3
              · rw [hFy p (c + 1) hz]
              · rw [hFy p (c + 1) hz]
    exact loop (min (g + 1) t4) 0 c (by omega) hc Ah Pl Md (fun _ _ => rfl)
theorem m_sought (H : zMR A s n u R h) {t4 tr : Nat} (ht4 : t4 ≤ 4) (htr : tr ≤ 100000) : zEv X 61 0 0 MX12_sought [.ref 98, .int (nI s), .int (nI t4), .int (nI tr)] (zWd I A t) (fun v w1 => v = some (.int (zSV (zSe t4 tr (zCT n u) 0 0 (fun _ => u)))) ∧ ∃ F G Ah Pl Md, w1 = zWd (zIf (zIf I 21 (nI (zCT n u).length)) 23 (nI (zSe t4 tr (zCT n u) 0 0 (fun _ => u)).2.1)) (zSB (zMA A F G) Ah Pl Md) t ∧ zTw F G (zCT n u) ∧ ((zSe t4 tr (zCT n u) 0 0 (fun _ => u)).1 = 1 → ∃ pl' : Nat → Nat, (∀ j, j < (zCT n u).length → pl' j < 4 ∧ Pl j = nI (pl' j)) ∧ ∀ p, p < 4 → zGe n (zEp u (zCT n u) pl' p (zCT n u).length) ((zSe t4 tr (zCT n u) 0 0 (fun _ => u)).2.2 p))) := by
  have h56 := zCT_56 (u := u) H.2.1.1
  refine eX12_sought _ _ _ _ (bX12_sought_0 _ _ _ _ (zvV ob_98 (m_laysTwos H) (by decide) ?_))
  rintro w1 ⟨F, G, rfl, hT⟩
  refine ⟨_, fi_98_23.wr, ?_⟩
  have hT2 : zTw (zMA A F G 108) (zMA A F G 109) (zCT n u) := by
    rw [zMA_108, zMA_109]
    exact hT
  have hmem : ∀ a b, (a, b) ∈ zCT n u → a < n ∧ b < n ∧ a ≠ b := fun a b hab => by
    obtain ⟨m1, m2, m3⟩ := zCT_mem hab
    exact ⟨m1, m2, zcr_ne m3⟩
  have hI2 := zIf_eq I 21 (nI (zCT n u).length)
  have hcall := m_searches (X := X) (I := zIf I 21 (nI (zCT n u).length)) (t := t) (zMA_H H F G) hT2 hI2 h56 hmem ht4 htr (zCT n u) 0 rfl (Nat.zero_le _) 0 0 (fun _ => u) (fun _ => 0) (by decide) (Nat.zero_le _) (fun j hj => absurd hj (Nat.not_lt_zero _)) (fun p _ => zGe_0 H.2.1) (zMA A F G 110) (zMA A F G 111) (zMA A F G 106) (fun j hj => absurd hj (Nat.not_lt_zero _))
  rw [zSB_id] at hcall
  refine ⟨ob_98.is, _, _, ?_, hcall, ?_⟩
  · omega
  · rintro v w1 ⟨rfl, Ah, Pl, Md, rfl, -, r2⟩
    exact ⟨_, rfl, rfl, F, G, Ah, Pl, Md, rfl, hT, r2⟩
end ZMs
theorem zKp.vs (I A : zF2) (c : Int32) (F G Pl Us Be Sa : Nat → Int32) : zKp I A (zIg I c) (zSA (zTA A F G) Pl Us Be Sa) := ((((zKp.vt I A c F G).a (p := 92) (by decide)).a (p := 93) (by decide)).a (p := 94) (by decide)).a (p := 95) (by decide)
theorem zKp.ms2 (I A : zF2) (c d : Int32) (F G Ah Pl Md : Nat → Int32) : zKp I A (zIf (zIf I 21 c) 23 d) (zSB (zMA A F G) Ah Pl Md) := (((((zKp.mt I A c F G).a (p := 110) (by decide)).a (p := 111) (by decide)).a (p := 106) (by decide))).f (p := 98) (by decide)
/-- the least t of which there is a realizer -/
def zdm (n : Nat) (u : Nat → Nat) (tr : Nat) : Nat → Nat → Int32
  | 0, _ => -1
  | j + 1, t4 => if (zSe t4 tr (zCT n u) 0 0 (fun _ => u)).1 = 0 then zdm n u tr j (t4 + 1) else if (zSe t4 tr (zCT n u) 0 0 (fun _ => u)).1 = 1 then nI t4 else -3
theorem zdm_s (n : Nat) (u : Nat → Nat) (tr j t4 : Nat) : zdm n u tr (j + 1) t4 = if (zSe t4 tr (zCT n u) 0 0 (fun _ => u)).1 = 0 then zdm n u tr j (t4 + 1) else if (zSe t4 tr (zCT n u) 0 0 (fun _ => u)).1 = 1 then nI t4 else -3 := rfl
/-- x in a .. b -/
def zbt (a b x : Int32) : Bool := decide (¬ x < a ∧ ¬ b < x)
theorem zbt_e {x : Int32} {a b : Nat} (ha : a < 2 ^ 31) (hb : b < 2 ^ 31) (h : zbt (nI a) (nI b) x = true) : ∃ k, a ≤ k ∧ k ≤ b ∧ x = nI k := by
  have h := of_decide_eq_true h
  have hb' : x ≤ nI b := Int32.not_lt.mp h.2
  have h0 : ¬ x < 0 := fun q => by
    have h1 := Int32.lt_iff_toInt_lt.mp q
    have h3 := Int32.le_iff_toInt_le.mp (Int32.not_lt.mp h.1)
    have h4 : (0 : Int32).toInt = 0 := by decide
    rw [nI_toInt ha] at h3
    omega
  obtain ⟨k, hk, rfl⟩ := nI_of2 (M := nI b) (n := b) (nI_toInt hb) h0 hb'
  refine ⟨k, ?_, by omega, rfl⟩
  have := h.1
  rw [zb_lt (by omega) ha] at this
  omega
theorem zRV0 {r : zSR} (h : r.1 = 0) : zRV r = -1 := if_pos h
theorem zRV1 {r : zSR} (h : r.1 = 1) : zRV r = nI r.2.1 := by
  unfold zRV
  rw [if_neg (by rw [h]; decide), if_pos h]
theorem zRV3 {r : zSR} (h : r.1 = 3) : zRV r = -3 := by
  unfold zRV
  rw [if_neg (by rw [h]; decide), if_neg (by rw [h]; decide)]
theorem zSV0 {r : zSR} (h : r.1 = 0) : zSV r = 0 := if_pos h
theorem zSV1 {r : zSR} (h : r.1 = 1) : zSV r = 1 := by
  unfold zSV
  rw [if_neg (by rw [h]; decide), if_pos h]
theorem zSV3 {r : zSR} (h : r.1 = 3) : zSV r = -3 := by
  unfold zSV
  rw [if_neg (by rw [h]; decide), if_neg (by rw [h]; decide)]
section ZQd
variable {X : zX} {S : Nat → zSl} {x y z : Int32} {w : zW}
theorem m_inB {a b : Int32} {ca cb : Int64} (ha : ca = a.toInt64) (hb : cb = b.toInt64) (y : Int32) : zRd X 0 MX12_in [.long y.toInt64, .long ca, .long cb] w (zB (zbt a b y)) := by
  have h1 := m_in (X := X) (w := w) y.toInt64 a.toInt64 b.toInt64
  have e : decide (¬ y.toInt64 < a.toInt64 ∧ ¬ b.toInt64 < y.toInt64) = zbt a b y := by
    unfold zbt
    simp only [wide_lt]
  rw [e, ← ha, ← hb] at h1
  exact h1
theorem v_areTries (y : Int32) : zRd X 0 MX11_areTries [.int y] w (zB (zbt 1 100000 y)) := by
  refine eX11_areTries _ (bX11_areTries_0 _ ?_)
  unfold zbt
  by_cases h1 : y < 1
  · rw [if_pos h1]
    exact ⟨by simp [h1, zB], rfl⟩
  · rw [if_neg h1]
    by_cases h2 : 100000 < y
    · rw [if_pos h2]
      exact ⟨by simp [h2, zB], rfl⟩
    · rw [if_neg h2]
      exact ⟨by simp [h1, h2, zB], rfl⟩
theorem q_dimension : zSame X MX11_dimension MX12_dimension [.int x, .int y] S := by
  rcases zslot S x with ⟨s, hs⟩ | hn
  · by_cases hy : zbt 1 100000 y = true
    · obtain ⟨tr, htr1, htr2, rfl⟩ := zbt_e (a := 1) (b := 100000) (by decide) (by decide) hy
      refine ⟨zdm (S s).1 (S s).2.1 tr 4 1, fun I A t hC => zQy.mk 63 (by decide) ?_, fun I A t hM => zQy.mk 63 (by decide) ?_⟩
      · refine eX11_dimension _ _ _ (bX11_dimension_0 _ _ _ (zvO1 ob_0 (v_orderIn1 hC hs) (by decide) (zcRd (v_areTries _) (by decide) ?_)))
        rw [zB_t hy]
        have key : ∀ (j t4 : Nat), t4 + j = 5 → ∀ I' A', zKp I A I' A' → zRn X 63 0 0 MX11_dimension 23 [some (.ref 0), none, some (.int (nI tr)), some (.ref (2 + 5 * s)), some (.int (nI t4)), none] [] (zWd I' A' t) (zQk I A t (zdm (S s).1 (S s).2.1 tr j t4)) := by
          intro j
          induction j with
          | zero =>
            intro t4 ht I' A' hK
            refine bX11_dimension_23 _ _ _ _ ?_
            show if nI 4 < nI t4 then _ else _
            rw [zi_lt (by omega) (by omega), if_pos (by omega)]
            exact zQk.of hK
          | succ j ih =>
            intro t4 ht I' A' hK
            have h0 := hK.c3 hC s hs.1
            have hbd := zSe_bd (t := t4) (tr := tr) (zCT (S s).1 (S s).2.1) 0 0 (fun _ => (S s).2.1) (Nat.zero_le _)
            refine bX11_dimension_23 _ _ _ _ ?_
            show if nI 4 < nI t4 then _ else _
            rw [zi_lt (by omega) (by omega), if_neg (by omega)]
            refine ⟨_, fr_0_9.rd, zvI1 ob_89 (v_search h0.1 (t4 := t4) (by omega) htr2) (by decide) ?_⟩
            rintro w1 ⟨F, G, Pl, Us, Be, Sa, rfl, -⟩
            have hK2 := hK.trans (zKp.vs I' A' (nI (zCT (S s).1 (S s).2.1).length) F G Pl Us Be Sa)
            rw [zdm_s]
            generalize zSe t4 tr (zCT (S s).1 (S s).2.1) 0 0 (fun _ => (S s).2.1) = r at *
            rcases hbd.2.2 with z | z | z
            · rw [zRV0 z, if_pos rfl, nI_1, if_pos z]
              exact ih (t4 + 1) (by omega) _ _ hK2
            · have hne : ¬ r.1 = 0 := by rw [z]; decide
              have h31 : r.2.1 < 2 ^ 31 := Nat.lt_of_le_of_lt hbd.2.1 (by omega)
              rw [zRV1 z, if_neg (znm1 h31), if_neg (fun e => nI_pos h31 (by rw [e]; decide)), if_neg hne, if_pos z]
              exact zQk.of hK2
            · have hne : ¬ r.1 = 0 := by rw [z]; decide
              have hne1 : ¬ r.1 = 1 := by rw [z]; decide
              rw [zRV3 z, if_neg (by decide), if_pos rfl, if_neg hne, if_neg hne1]
              exact zQk.of hK2
        exact key 4 1 (by decide) I A (zKp.refl I A)
      · have h1 := m_ord1 (X := X) (I := I) (t := t) hM hs
        obtain ⟨s3, rfl, s0⟩ := hs
        refine eX12_dimension _ _ _ (bX12_dimension_0 _ _ _ (zvRd ob_98 h1 (by decide) ?_))
        rw [if_neg (by decide)]
        refine zcRd (m_inB (a := 1) (b := 100000) (by decide) (by decide) _) (by decide) ?_
        rw [zB_t hy]
        have key : ∀ (j t4 : Nat), t4 + j = 5 → ∀ I' A', zKp I A I' A' → zRn X 63 0 0 MX12_dimension 25 [some (.ref 98), some (.int (nI s)), some (.int (nI tr)), some (.int (nI t4)), none] [] (zWd I' A' t) (zQk I A t (zdm (S s).1 (S s).2.1 tr j t4)) := by
          intro j
          induction j with
          | zero =>
            intro t4 ht I' A' hK
            refine bX12_dimension_25 _ _ _ _ ?_
            show if nI 4 < nI t4 then _ else _
            rw [zi_lt (by omega) (by omega), if_pos (by omega)]
            exact zQk.of hK
          | succ j ih =>
            intro t4 ht I' A' hK
            have h0 : zMR A' s (S s).1 (S s).2.1 (S s).2.2.1 (S s).2.2.2 := hK.m3 hM s s3
            have hbd := zSe_bd (t := t4) (tr := tr) (zCT (S s).1 (S s).2.1) 0 0 (fun _ => (S s).2.1) (Nat.zero_le _)
            refine bX12_dimension_25 _ _ _ _ ?_
            show if nI 4 < nI t4 then _ else _
            rw [zi_lt (by omega) (by omega), if_neg (by omega)]
            refine zvI1 ob_98 (m_sought h0 (t4 := t4) (by omega) htr2) (by decide) ?_
            rintro w1 ⟨F, G, Ah, Pl, Md, rfl, -, -⟩
            have hK2 := hK.trans (zKp.ms2 I' A' (nI (zCT (S s).1 (S s).2.1).length) (nI (zSe t4 tr (zCT (S s).1 (S s).2.1) 0 0 (fun _ => (S s).2.1)).2.1) F G Ah Pl Md)
            rw [zdm_s]
            generalize zSe t4 tr (zCT (S s).1 (S s).2.1) 0 0 (fun _ => (S s).2.1) = r at *
            rcases hbd.2.2 with z | z | z
            · rw [zSV0 z, if_pos rfl, nI_1, if_pos z]
              exact ih (t4 + 1) (by omega) _ _ hK2
            · have hne : ¬ r.1 = 0 := by rw [z]; decide
              rw [zSV1 z, if_neg (by decide), if_pos rfl, if_neg hne, if_pos z]
              exact zQk.of hK2
            · have hne : ¬ r.1 = 0 := by rw [z]; decide
              have hne1 : ¬ r.1 = 1 := by rw [z]; decide
              rw [zSV3 z, if_neg (by decide), if_neg (by decide), if_neg hne, if_neg hne1]
              exact zQk.of hK2
        exact key 4 1 (by decide) I A (zKp.refl I A)
    · rw [Bool.not_eq_true] at hy
      refine ⟨-2, fun I A t hC => zQy.mk 5 (by decide) ?_, fun I A t hM => zQy.mk 5 (by decide) ?_⟩
      · refine eX11_dimension _ _ _ (bX11_dimension_0 _ _ _ (zvO1 ob_0 (v_orderIn1 hC hs) (by decide) (zcRd (v_areTries _) (by decide) ?_)))
        rw [zB_f hy]
        exact zQk.id _ _ _ _
      · refine eX12_dimension _ _ _ (bX12_dimension_0 _ _ _ (zvRd ob_98 (m_ord1 hM hs) (by decide) ?_))
        rw [if_neg (by decide)]
        refine zcRd (m_inB (a := 1) (b := 100000) (by decide) (by decide) _) (by decide) ?_
        rw [zB_f hy]
        exact zQk.id _ _ _ _
  · refine ⟨-2, fun I A t hC => zQy.mk 5 (by decide) ?_, fun I A t hM => zQy.mk 5 (by decide) ?_⟩
    · exact eX11_dimension _ _ _ (bX11_dimension_0 _ _ _ (zvO0 ob_0 (v_orderIn0 hC hn) (by decide) (zQk.id _ _ _ _)))
    · refine eX12_dimension _ _ _ (bX12_dimension_0 _ _ _ (zvRd ob_98 (m_ord0 hM hn) (by decide) ?_))
      rw [if_pos rfl]
      exact zQk.id _ _ _ _
end ZQd
