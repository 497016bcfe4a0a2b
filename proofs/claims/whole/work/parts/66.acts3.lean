/-! ===== puts, cuts, adds ===== -/
theorem zAc.mk2 {X : zX} {M N : zM} {av : List Value} {st : zSt} (r : Int32) (st' : zSt) (d1 d2 : Nat) (hd1 : d1 < 90) (hd2 : d2 < 90) (h1 : ∀ I A t, zCI st I A → ∃ Q1, zEv X d1 0 0 M (.ref 0 :: av) (zWd I A t) Q1 ∧ ∀ v w1, Q1 v w1 → zQa st' I A t r v w1) (h2 : ∀ I A t, zMIv st I A → zEv X d2 0 0 N (.ref 98 :: av) (zWd I A t) (zQb_ st' I A t r)) : zAc X M N av st := ⟨r, st', fun I A t hC => by
  obtain ⟨Q1, g1, g2⟩ := h1 I A t hC
  exact ⟨d1, Q1, hd1, g1, g2⟩, fun I A t hM => ⟨d2, _, hd2, h2 I A t hM, fun _ _ q => q⟩⟩
theorem zln_id {n : Nat} {u : Nat → Nat} (h : zPo n u) {a b : Nat} (hab : zlt u a b = true) : zln u a b = u := funext (fun x => zext (fun i => by
  rw [Bool.eq_iff_iff]
  have := zln_lt u a b i x
  show zlt (zln u a b) i x = true ↔ zlt u i x = true
  rw [this]
  constructor
  · rintro (q | ⟨q1, q2⟩)
    · exact q
    · have hib : zlt u i b = true := by
        rcases q1 with e | e
        · rw [e]
          exact hab
        · exact h.2.2.2.2 _ _ _ e hab
      rcases q2 with e | e
      · rw [← e]
        exact hib
      · exact h.2.2.2.2 _ _ _ hib e
  · exact fun q => Or.inl q))
theorem zov_l {n : Nat} {u : Nat → Nat} (h : zPo n u) {a k : Nat} : (u a ||| 2 ^ a).testBit k = true ↔ (k = a ∨ zlt u k a = true) := by
  rw [Nat.testBit_or, Nat.testBit_two_pow, Bool.or_eq_true, decide_eq_true_eq]
  constructor
  · rintro (q | q)
    · exact Or.inr q
    · exact Or.inl q.symm
  · rintro (q | q)
    · exact Or.inr q.symm
    · exact Or.inl q
theorem zov_h {n : Nat} {u : Nat → Nat} (h : zPo n u) {b k : Nat} : (zov n u b ||| 2 ^ b).testBit k = true ↔ (k = b ∨ zlt u b k = true) := by
  rw [Nat.testBit_or, Nat.testBit_two_pow, Bool.or_eq_true, decide_eq_true_eq, zov_bit h]
  constructor
  · rintro (q | q)
    · exact Or.inr q
    · exact Or.inl q.symm
  · rintro (q | q)
    · exact Or.inr q.symm
    · exact Or.inl q
theorem zin_t {n : Nat} {y : Int32} (h : zin n y = true) (hn : n < 2 ^ 31) : decide (¬ y < 0 ∧ ¬ nI n ≤ y) = true := by rw [zin_h hn]; exact h
section ZA4
variable {X : zX} {I A : zF2} {t : zW} {q s n R : Nat} {u : Nat → Nat} {h : Nat → Nat → Nat} {x : zSl}
theorem v_link (H : zCS I A q x) {a b : Nat} (ha : a < x.1) (hb : b < x.1) (hab : a ≠ b) (hba : zlt x.2.1 b a = false) : zEv X 2 0 0 MX5_link [.ref q, .int (nI a), .int (nI b)] (zWd I A t) (fun v w1 => v = some (.int (nI (ztw x.1 (zln x.2.1 a b)) - nI (ztw x.1 x.2.1))) ∧ ∃ I' A', w1 = zWd I' A' t ∧ zCS I' A' q (x.1, zln x.2.1 a b, x.2.2) ∧ zOn q I A I' A') := by
  obtain ⟨n, u, R, h⟩ := x
  have H1 : zOR I A q n u := H.1
  have hq := H1.1
  have hp := H1.2.1
  have h8 := hp.1
  have h28 := z28 h8
  have ha : a < n := ha
  have hb : b < n := hb
  have hba : zlt u b a = false := hba
  have l1 : u a ||| 2 ^ a < 2 ^ n := zor_lt (hp.2.1 a) ha
  have l2 : zov n u b ||| 2 ^ b < 2 ^ n := zor_lt (zov_lt n u b) hb
  refine eX5_link _ _ _ (bX5_link_0 _ _ _ (zvRd hq.ob (v_hasN H1 (by omega)) (by decide) ?_))
  rw [zB_ifP, if_pos ha]
  refine zvRd hq.ob (v_hasN H1 (by omega)) (by decide) ?_
  rw [zB_ifP, if_pos hb]
  refine zvRd hq.ob (v_twos H1) (by decide) ⟨_, H1.fb, _, H1.rb ha, _, H1.fa, _, H1.ra hb, ?_⟩
  rw [zb_1 a (by omega), zb_or, zb_1 b (by omega), zb_or]
  have key : ∀ k, k ≤ n → ∀ B C : Nat → Int32, (∀ j, j < k → B j = nI (zln u a b j) ∧ C j = nI (zov n (zln u a b) j)) → (∀ j, k ≤ j → j < n → B j = nI (u j) ∧ C j = nI (zov n u j)) → zRn X 2 0 0 MX5_link 50 [some (.ref q), none, none, some (.int (nI (ztw n u))), some (.int (nI (u a ||| 2 ^ a))), some (.int (nI (zov n u b ||| 2 ^ b))), some (.int (nI k))] [] (zWd I (va_up (va_up A (q + 1) B) (q + 2) C) t) (fun v w1 => v = some (.int (nI (ztw n (zln u a b)) - nI (ztw n u))) ∧ ∃ I' A', w1 = zWd I' A' t ∧ zCS I' A' q (n, zln u a b, R, h) ∧ zOn q I A I' A') := by
    refine zdown ?_ ?_
    · intro B C h1 _
      have hz : zfI (zWd I (va_up (va_up A (q + 1) B) (q + 2) C) t) q 5 3 = some (nI n) := by rw [hq.sz.rd, H1.2.2.1]
      have hN : zOR I (va_up (va_up A (q + 1) B) (q + 2) C) q n (zln u a b) := ⟨hq, zln_po hp ha hb hab hba, H1.2.2.1, fun j hj => by rw [zup_ne (by omega), zup_eq]; exact (h1 j hj).1, fun j hj => by rw [zup_eq]; exact (h1 j hj).2⟩
      refine bX5_link_50 _ _ _ _ _ ⟨_, hz, ?_⟩
      rw [if_pos (Int32.le_refl _)]
      refine zvRd hq.ob (v_twos hN) (by decide) ⟨rfl, I, _, rfl, ⟨hN, H.2.1, H.2.2.1, fun r i hr hi => ?_⟩, ((zOn.refl q I A).a (p := q + 1) (by omega)).a (p := q + 2) (by omega)⟩
      rw [zup_ne (by omega), zup_ne (by omega)]
      exact H.2.2.2 r i hr hi
    · intro k hk ih B C h1 h2
      have hz : zfI (zWd I (va_up (va_up A (q + 1) B) (q + 2) C) t) q 5 3 = some (nI n) := by rw [hq.sz.rd, H1.2.2.1]
      obtain ⟨k1, k2⟩ := h2 k (Nat.le_refl _) hk
      have gB : ∀ C, zaI (zWd I (va_up (va_up A (q + 1) B) (q + 2) C) t) (q + 1) (nI k) = some (nI (u k)) := fun C => by rw [hq.bA.rd (by omega), zup_ne (by omega), zup_eq, k1]
      have gC : zaI (zWd I (va_up (va_up A (q + 1) B) (q + 2) C) t) (q + 2) (nI k) = some (nI (zov n u k)) := by rw [hq.aA.rd (by omega), zup_eq, k2]
      have step2 : ∀ C', C' k = nI (zov n (zln u a b) k) → (∀ j, j ≠ k → C' j = C j) → zRn X 2 0 0 MX5_link 82 [some (.ref q), none, none, some (.int (nI (ztw n u))), some (.int (nI (u a ||| 2 ^ a))), some (.int (nI (zov n u b ||| 2 ^ b))), some (.int (nI k))] [] (zWd I (va_up (va_up A (q + 1) B) (q + 2) C') t) (fun v w1 => v = some (.int (nI (ztw n (zln u a b)) - nI (ztw n u))) ∧ ∃ I' A', w1 = zWd I' A' t ∧ zCS I' A' q (n, zln u a b, R, h) ∧ zOn q I A I' A') := fun C' c1 c2 => by
        have fin : ∀ B', B' k = nI (zln u a b k) → (∀ j, j ≠ k → B' j = B j) → zRn X 2 0 0 MX5_link 105 [some (.ref q), none, none, some (.int (nI (ztw n u))), some (.int (nI (u a ||| 2 ^ a))), some (.int (nI (zov n u b ||| 2 ^ b))), some (.int (nI k))] [] (zWd I (va_up (va_up A (q + 1) B') (q + 2) C') t) (fun v w1 => v = some (.int (nI (ztw n (zln u a b)) - nI (ztw n u))) ∧ ∃ I' A', w1 = zWd I' A' t ∧ zCS I' A' q (n, zln u a b, R, h) ∧ zOn q I A I' A') := fun B' b1 b2 => by
          refine bX5_link_105 _ _ _ _ _ ?_
          rw [nI_1]
          refine ih B' C' (fun j hj => ?_) (fun j hj hjn => ?_)
          · by_cases e : j = k
            · rw [e]
              exact ⟨b1, c1⟩
            · rw [b2 j e, c2 j e]
              exact h1 j (by omega)
          · rw [b2 j (by omega), c2 j (by omega)]
            exact h2 j (by omega) hjn
        refine bX5_link_82 _ _ _ _ _ ?_
        rw [zi_has (by omega) (by omega)]
        by_cases c : (zov n u b ||| 2 ^ b).testBit k = true
        · rw [if_pos c]
          refine ⟨_, hq.bl.rd, _, gB C', ?_⟩
          rw [zb_or]
          refine ⟨zWd I (va_up (va_up A (q + 1) (upd B k (nI (u k ||| (u a ||| 2 ^ a))))) (q + 2) C') t, ?_, ?_⟩
          · rw [hq.bA.wr (by omega), zup_ne (show q + 1 ≠ q + 2 by omega), zup_eq, zup_comm _ (show q + 2 ≠ q + 1 by omega), bx_uu]
          · refine fin _ ?_ (fun j hj => upd_ne _ _ hj)
            rw [upd_eq]
            unfold zln
            rw [if_pos ((zov_h hp).mp c)]
        · rw [if_neg c]
          refine fin B ?_ (fun _ _ => rfl)
          rw [k1]
          unfold zln
          rw [if_neg (fun z => c ((zov_h hp).mpr z))]
      refine bX5_link_50 _ _ _ _ _ ⟨_, hz, ?_⟩
      rw [zi_le (by omega) (by omega), if_neg (by omega), zi_has (by omega) (by omega)]
      by_cases c : (u a ||| 2 ^ a).testBit k = true
      · rw [if_pos c]
        refine ⟨_, hq.ab.rd, _, gC, ?_⟩
        rw [zb_or]
        refine ⟨zWd I (va_up (va_up A (q + 1) B) (q + 2) (upd C k (nI (zov n u k ||| (zov n u b ||| 2 ^ b))))) t, ?_, ?_⟩
        · rw [hq.aA.wr (by omega), zup_eq, bx_uu]
        · refine step2 _ ?_ (fun j hj => upd_ne _ _ hj)
          rw [upd_eq, zov_ln hp ha hb hab hba, if_pos ((zov_l hp).mp c)]
      · rw [if_neg c]
        refine step2 C ?_ (fun _ _ => rfl)
        rw [k2, zov_ln hp ha hb hab hba, if_neg (fun z => c ((zov_l hp).mpr z))]
  have k0 := key 0 (Nat.zero_le _) (A (q + 1)) (A (q + 2)) (fun j hj => absurd hj (Nat.not_lt_zero _)) (fun j _ hj => ⟨H1.2.2.2.1 j hj, H1.2.2.2.2 j hj⟩)
  rw [zup_self, zup_self] at k0
  exact k0
theorem m_lies (H : zMR A s n u R h) {a b : Nat} (ha : a < n) (hb : b < n) : zEv X 4 0 0 MX12_lies [.ref 98, .int (nI s), .int (nI a), .int (nI b)] (zWd I A t) (fun v w1 => v = none ∧ ∃ D, w1 = zWd I (va_up A 99 D) t ∧ (∀ k, k < n → D (58 * s + 1 + k) = nI (zln u a b k)) ∧ ∀ j, (j < 58 * s + 1 ∨ 58 * s + 1 + n ≤ j) → D j = A 99 j) := by
  have hp := H.2.1
  have h8 := hp.1
  have h28 := z28 h8
  have hs := H.1
  have l1 : u a ||| 2 ^ a < 2 ^ n := zor_lt (hp.2.1 a) ha
  have l2 : zov n u b ||| 2 ^ b < 2 ^ n := zor_lt (zov_lt n u b) hb
  refine eX12_lies _ _ _ _ (bX12_lies_0 _ _ _ _ (zvRd ob_98 (m_under H (by omega)) (by decide) (zvRd ob_98 (m_over H (by omega)) (by decide) ?_)))
  rw [zb_1 a (by omega), zb_or, zb_1 b (by omega), zb_or]
  have key : ∀ k, k ≤ n → ∀ D : Nat → Int32, (∀ j, j < k → D (58 * s + 1 + j) = nI (zln u a b j)) → (∀ j, (j < 58 * s + 1 ∨ 58 * s + 1 + k ≤ j) → D j = A 99 j) → zRn X 4 0 0 MX12_lies 27 [some (.ref 98), some (.int (nI s)), none, none, some (.int (nI (u a ||| 2 ^ a))), some (.int (nI (zov n u b ||| 2 ^ b))), some (.int (nI k))] [] (zWd I (va_up A 99 D) t) (fun v w1 => v = none ∧ ∃ D, w1 = zWd I (va_up A 99 D) t ∧ (∀ k, k < n → D (58 * s + 1 + k) = nI (zln u a b k)) ∧ ∀ j, (j < 58 * s + 1 ∨ 58 * s + 1 + n ≤ j) → D j = A 99 j) := by
    refine zdown ?_ ?_
    · intro D h1 h2
      have hmany : va_up A 99 D 99 (58 * s) = nI n := by rw [zup_eq, h2 _ (by omega), H.2.2.2.1]
      refine bX12_lies_27 _ _ _ _ _ (zvRd ob_98 (r_many hs hmany) (by decide) ?_)
      rw [if_pos (Int32.le_refl _)]
      exact ⟨rfl, D, rfl, h1, h2⟩
    · intro k hk ih D h1 h2
      have hmany : va_up A 99 D 99 (58 * s) = nI n := by rw [zup_eq, h2 _ (by omega), H.2.2.2.1]
      have hund : va_up A 99 D 99 (58 * s + 1 + k) = nI (u k) := by rw [zup_eq, h2 _ (by omega), H.2.2.2.2.1 k (by omega)]
      refine bX12_lies_27 _ _ _ _ _ (zvRd ob_98 (r_many hs hmany) (by decide) ?_)
      rw [zi_le (by omega) (by omega), if_neg (by omega)]
      refine zcRd (m_has (by omega) (by omega)) (by decide) ?_
      rw [zB_if]
      by_cases c : (zov n u b ||| 2 ^ b).testBit k = true
      · rw [if_pos c]
        refine zvRd ob_98 (r_under hs (by omega) hund) (by decide) ?_
        rw [zb_or]
        have e1 : (1 : Int32) + nI k = nI (1 + k) := by
          show nI 1 + nI k = _
          rw [nI_add]
        rw [e1]
        refine zvV ob_98 (m_lays hs (k := 1 + k) (by omega) _) (by decide) ?_
        rintro w1 rfl
        refine bX12_lies_66 _ _ _ _ _ ?_
        rw [zup_eq, bx_uu, nI_1]
        refine ih _ (fun j hj => ?_) (fun j hj => ?_)
        · by_cases e : j = k
          · rw [e, show 58 * s + 1 + k = 58 * s + (1 + k) by omega, upd_eq]
            unfold zln
            rw [if_pos ((zov_h hp).mp c)]
          · rw [upd_ne _ _ (by omega)]
            exact h1 j (by omega)
        · rw [upd_ne _ _ (by omega)]
          exact h2 j (by omega)
      · rw [if_neg c]
        refine bX12_lies_66 _ _ _ _ _ ?_
        rw [nI_1]
        refine ih D (fun j hj => ?_) (fun j hj => h2 j (by omega))
        by_cases e : j = k
        · rw [e, h2 _ (by omega), H.2.2.2.2.1 k (by omega)]
          unfold zln
          rw [if_neg (fun z => c ((zov_h hp).mpr z))]
        · exact h1 j (by omega)
  have k0 := key 0 (Nat.zero_le _) (A 99) (fun j hj => absurd hj (Nat.not_lt_zero _)) (fun _ _ => rfl)
  rw [zup_self] at k0
  exact k0
theorem zVl_ln {a b : Nat} (hx : zVl x) (ha : a < x.1) (hb : b < x.1) (hab : a ≠ b) (hba : zlt x.2.1 b a = false) : zVl (x.1, zln x.2.1 a b, x.2.2) := ⟨zln_po hx.1 ha hb hab hba, hx.2.1, hx.2.2⟩
/-- a cover goes -/
def zun (u : Nat → Nat) (a b : Nat) : Nat → Nat := va_up u b (zdf (u b) (2 ^ a))
theorem zun_lt (u : Nat → Nat) (a b i j : Nat) : zlt (zun u a b) i j = true ↔ (zlt u i j = true ∧ ¬ (i = a ∧ j = b)) := by
  show ((zun u a b) j).testBit i = true ↔ _
  unfold zun
  by_cases e : j = b
  · rw [e, zup_eq, zdf_bit, Nat.testBit_two_pow, Bool.and_eq_true, Bool.not_eq_true', decide_eq_false_iff_not]
    constructor
    · rintro ⟨q1, q2⟩
      exact ⟨q1, fun z => q2 z.1.symm⟩
    · rintro ⟨q1, q2⟩
      exact ⟨q1, fun z => q2 ⟨z.symm, rfl⟩⟩
  · rw [zup_ne e]
    constructor
    · exact fun q => ⟨q, fun z => e z.2⟩
    · exact fun q => q.1
theorem zun_po (hp : zPo n u) {a b : Nat} (hc : zcv n u a b = true) : zPo n (zun u a b) := by
  obtain ⟨c1, c2⟩ := (zcv_iff hp a b).mp hc
  refine ⟨hp.1, fun j => ?_, fun j hj => ?_, fun i => ?_, fun i j k h1 h2 => ?_⟩
  · unfold zun
    by_cases e : j = b
    · rw [e, zup_eq]
      exact zdf_lt (hp.2.1 b)
    · rw [zup_ne e]
      exact hp.2.1 j
  · unfold zun
    have := (hp.lt c1).2
    rw [zup_ne (by omega)]
    exact hp.2.2.1 j hj
  · cases z : zlt (zun u a b) i i
    · rfl
    · have := ((zun_lt u a b i i).mp z).1
      rw [hp.2.2.2.1 i] at this
      cases this
  · have g1 := (zun_lt u a b i j).mp h1
    have g2 := (zun_lt u a b j k).mp h2
    refine (zun_lt u a b i k).mpr ⟨hp.2.2.2.2 _ _ _ g1.1 g2.1, fun ⟨e1, e2⟩ => ?_⟩
    rw [e1] at g1
    rw [e2] at g2
    have := c2 j g1.1
    rw [g2.1] at this
    cases this
theorem zov_un (hp : zPo n u) {a b : Nat} (hc : zcv n u a b = true) (i : Nat) : zov n (zun u a b) i = if i = a then zdf (zov n u a) (2 ^ b) else zov n u i := zext (fun j => by
  rw [zov_bit (zun_po hp hc), Bool.eq_iff_iff, zun_lt]
  by_cases e : i = a
  · rw [if_pos e, zdf_bit, Nat.testBit_two_pow, zov_bit hp, Bool.and_eq_true, Bool.not_eq_true', decide_eq_false_iff_not, e]
    constructor
    · rintro ⟨q1, q2⟩
      exact ⟨q1, fun z => q2 ⟨rfl, z.symm⟩⟩
    · rintro ⟨q1, q2⟩
      exact ⟨q1, fun z => q2 z.2.symm⟩
  · rw [if_neg e, zov_bit hp]
    constructor
    · exact fun q => q.1
    · exact fun q => ⟨q, fun z => e z.1⟩)
theorem v_unlink (H : zCS I A q x) {a b : Nat} (hc : zcv x.1 x.2.1 a b = true) : zEv X 1 0 0 MX5_unlink [.ref q, .int (nI a), .int (nI b)] (zWd I A t) (fun v w1 => v = none ∧ ∃ I' A', w1 = zWd I' A' t ∧ zCS I' A' q (x.1, zun x.2.1 a b, x.2.2) ∧ zOn q I A I' A') := by
  obtain ⟨n, u, R, h⟩ := x
  have H1 : zOR I A q n u := H.1
  have hq := H1.1
  have hp := H1.2.1
  have h8 := hp.1
  have hc : zcv n u a b = true := hc
  obtain ⟨ha, hb⟩ := zcv_lt hp hc
  refine eX5_unlink _ _ _ (bX5_unlink_0 _ _ _ (zvRd hq.ob (v_hasN H1 (by omega)) (by decide) ?_))
  rw [zB_ifP, if_pos ha]
  refine zvRd hq.ob (v_hasN H1 (by omega)) (by decide) ?_
  rw [zB_ifP, if_pos hb]
  refine ⟨_, H1.fb, _, H1.rb hb, ?_⟩
  rw [zb_1 a (by omega), zb_df]
  refine ⟨_, hq.bA.wr (by omega), _, hq.ab.rd, nI (zov n u a), ?_, ?_⟩
  · rw [hq.aA.rd (by omega), zup_ne (by omega), H1.2.2.2.2 a ha]
  · rw [zb_1 b (by omega), zb_df]
    refine ⟨_, hq.aA.wr (by omega), rfl, I, _, rfl, ⟨⟨hq, zun_po hp hc, H1.2.2.1, fun j hj => ?_, fun j hj => ?_⟩, H.2.1, H.2.2.1, fun r i hr hi => ?_⟩, ((zOn.refl q I A).a (p := q + 1) (by omega)).a (p := q + 2) (by omega)⟩
    · rw [zup_ne (by omega), zup_eq]
      show _ = nI (zun u a b j)
      unfold zun
      by_cases e : j = b
      · rw [e, upd_eq, zup_eq]
      · rw [upd_ne _ _ e, zup_ne e]
        exact H1.2.2.2.1 j hj
    · rw [zup_eq, zup_ne (show q + 2 ≠ q + 1 by omega)]
      show _ = nI (zov n (zun u a b) j)
      rw [zov_un hp hc]
      by_cases e : j = a
      · rw [e, upd_eq, if_pos rfl]
      · rw [upd_ne _ _ e, if_neg e]
        exact H1.2.2.2.2 j hj
    · rw [zup_ne (by omega), zup_ne (by omega)]
      exact H.2.2.2 r i hr hi
theorem zenc {st : zSt} (hM : zMIv st I A) (hs : s < 3) {k : Nat} (hk : k < 58) : A 99 (58 * s + k) = nI (zEn (st.1 s) k) := by
  rw [hM.1 _ (by omega)]
  unfold zEs
  rw [show (58 * s + k) / 58 = s by omega, show (58 * s + k) % 58 = k by omega]
end ZA4
section ZA5
variable {X : zX} {st : zSt} {x y z : Int32}
theorem a_puts : zAc X MX11_puts MX12_puts [.int x, .int y, .int z] st := by
  rcases zslot st.1 x with ⟨s, hs⟩ | hn
  · by_cases hy : zin (st.1 s).1 y = true
    · obtain ⟨a, ha, rfl⟩ := zin_e.mp hy
      by_cases hz : zin (st.1 s).1 z = true
      · obtain ⟨b, hb, rfl⟩ := zin_e.mp hz
        by_cases hc : a = b ∨ zlt (st.1 s).2.1 b a = true
        · refine zAc.mk (-6) st 6 6 (by decide) (by decide) (fun I A t hC => ?_) (fun I A t hM => ?_)
          · have h0 := hC.ns hs.1
            have h8 := h0.1.n8
            refine eX11_puts _ _ _ _ (bX11_puts_0 _ _ _ _ (zvO1 ob_0 (v_orderWith2 hC.1 hs ha) (by decide) (zvRd h0.1.1.ob (v_hasN h0.1 (by omega)) (by decide) ?_)))
            rw [zB_ifP, if_pos hb, zi_eq (by omega) (by omega)]
            by_cases e : a = b
            · rw [if_pos e]
              exact zQa.id hC
            · rw [if_neg e]
              refine zvRd h0.1.1.ob (v_under h0.1 (by omega) (by omega)) (by decide) ?_
              rw [zB_if, if_pos (hc.resolve_left e)]
              exact zQa.id hC
          · have h1 := m_thing1 (X := X) (I := I) (t := t) (y := nI a) hM.m3 hs
            have h2 := m_thing1 (X := X) (I := I) (t := t) (y := nI b) hM.m3 hs
            obtain ⟨s3, rfl, s0⟩ := hs
            have H : zMR A s (st.1 s).1 (st.1 s).2.1 (st.1 s).2.2.1 (st.1 s).2.2.2 := hM.m3 s s3
            have h8 := H.2.1.1
            refine eX12_puts _ _ _ _ (bX12_puts_0 _ _ _ _ (zvRd ob_98 h1 (by decide) ?_))
            rw [zB_t hy]
            refine zvRd ob_98 h2 (by decide) ?_
            rw [zB_t hz, zi_eq (by omega) (by omega)]
            by_cases e : a = b
            · rw [if_pos e]
              exact zQb_.id hM
            · rw [if_neg e]
              refine zvRd ob_98 (m_isBelow H (by omega) (by omega)) (by decide) ?_
              rw [zB_if, if_pos (hc.resolve_left e)]
              exact zQb_.id hM
        · have hab : a ≠ b := fun e => hc (Or.inl e)
          have hba : zlt (st.1 s).2.1 b a = false := by
            cases q : zlt (st.1 s).2.1 b a
            · rfl
            · exact absurd (Or.inr q) hc
          have cls : ∀ I A t, zCI st I A → zEv X 6 0 0 MX11_puts [.ref 0, .int x, .int (nI a), .int (nI b)] (zWd I A t) (fun v w1 => v = some (.int (nI (ztw (st.1 s).1 (zln (st.1 s).2.1 a b)) - nI (ztw (st.1 s).1 (st.1 s).2.1))) ∧ ∃ I' A', w1 = zWd I' A' t ∧ zPM I A I' A' ∧ ((st.1 s = ((st.1 s).1, zln (st.1 s).2.1 a b, (st.1 s).2.2) ∧ zCI st I' A') ∨ (st.1 s ≠ ((st.1 s).1, zln (st.1 s).2.1 a b, (st.1 s).2.2) ∧ zCI (zPu st s ((st.1 s).1, zln (st.1 s).2.1 a b, (st.1 s).2.2)) I' A'))) := fun I A t hC => by
            have h0 := hC.ns hs.1
            have hv := hC.2.1 s hs.1
            have h8 := h0.1.n8
            refine eX11_puts _ _ _ _ (bX11_puts_0 _ _ _ _ (zvO1 ob_0 (v_orderWith2 hC.1 hs ha) (by decide) (zvRd h0.1.1.ob (v_hasN h0.1 (by omega)) (by decide) ?_)))
            rw [zB_ifP, if_pos hb, zi_eq (by omega) (by omega), if_neg hab]
            refine zvRd h0.1.1.ob (v_under h0.1 (by omega) (by omega)) (by decide) ?_
            rw [zB_f hba]
            refine ⟨_, fr_0_1.rd, zvV q17.ob (v_copyFrom q17 (by have := hs.1; omega) h0) (by decide) ?_⟩
            rintro w1 ⟨I1, A1, rfl, g1, g2⟩
            refine ⟨_, fr_0_1.rd, zvI1 q17.ob (v_link g1 ha hb hab hba) (by decide) ?_⟩
            rintro w2 ⟨I2, A2, rfl, g3, g4⟩
            have g5 := g2.trans g4
            have hC1 := g5.kp.ci hC
            have hx := hs.2.1
            rw [hx]
            refine zvV ob_0 (v_become hC1 g3 (zVl_ln hv ha hb hab hba) hs.1) (by decide) ?_
            rintro w3 ⟨I3, A3, rfl, k1, k2, k3⟩
            exact ⟨rfl, I3, A3, rfl, (g5.kp.pm).trans k2.pm, k3⟩
          cases hlt : zlt (st.1 s).2.1 a b
          · have hne : st.1 s ≠ ((st.1 s).1, zln (st.1 s).2.1 a b, (st.1 s).2.2) := fun e => by
              have e2 : (st.1 s).2.1 = zln (st.1 s).2.1 a b := congrArg (fun z : zSl => z.2.1) e
              have h1 : zlt (zln (st.1 s).2.1 a b) a b = true := (zln_lt _ a b a b).mpr (Or.inr ⟨Or.inl rfl, Or.inl rfl⟩)
              rw [← e2, hlt] at h1
              cases h1
            refine zAc.mk2 (nI (ztw (st.1 s).1 (zln (st.1 s).2.1 a b)) - nI (ztw (st.1 s).1 (st.1 s).2.1)) (zPu st s ((st.1 s).1, zln (st.1 s).2.1 a b, (st.1 s).2.2)) 6 6 (by decide) (by decide) (fun I A t hC => ?_) (fun I A t hM => ?_)
            · exact ⟨_, cls I A t hC, fun v w1 ⟨e1, I', A', e2, e3, e4⟩ => ⟨e1, I', A', e2, (e4.resolve_left (fun z => hne z.1)).2, e3⟩⟩
            · have h1 := m_thing1 (X := X) (I := I) (t := t) (y := nI a) hM.m3 hs
              have h2 := m_thing1 (X := X) (I := I) (t := t) (y := nI b) hM.m3 hs
              obtain ⟨s3, rfl, s0⟩ := hs
              have H : zMR A s (st.1 s).1 (st.1 s).2.1 (st.1 s).2.2.1 (st.1 s).2.2.2 := hM.m3 s s3
              have hv := hM.2.1 s s3
              have h8 := H.2.1.1
              refine eX12_puts _ _ _ _ (bX12_puts_0 _ _ _ _ (zvRd ob_98 h1 (by decide) ?_))
              rw [zB_t hy]
              refine zvRd ob_98 h2 (by decide) ?_
              rw [zB_t hz, zi_eq (by omega) (by omega), if_neg hab]
              refine zvRd ob_98 (m_isBelow H (by omega) (by omega)) (by decide) ?_
              rw [zB_f hba]
              refine zvRd ob_98 (m_isBelow H (by omega) (by omega)) (by decide) ?_
              rw [zB_f hlt]
              refine zvV ob_98 m_remembers (by decide) ?_
              rintro w1 ⟨W, rfl, hW⟩
              have H1 := H.up (p := 100) (f := W) (by decide)
              refine zvRd ob_98 (m_belowMany H1) (by decide) (zvV ob_98 (m_lies H1 ha hb) (by decide) ?_)
              rintro w2 ⟨D, rfl, d1, d2⟩
              have hsg : zSg (va_up (va_up A 100 W) 99 D) (zEs (va_up st.1 s ((st.1 s).1, zln (st.1 s).2.1 a b, (st.1 s).2.2))) := zSg_put (A := A) hM.1 (fun k hk => by
                rw [zup_eq]
                by_cases c1 : k < 1 ∨ 1 + (st.1 s).1 ≤ k
                · rw [d2 _ (by omega), zup_ne (by decide), zenc hM s3 hk]
                  congr 1
                  unfold zEn
                  by_cases k0 : k = 0
                  · rw [if_pos k0, if_pos k0]
                  · rw [if_neg k0, if_neg k0]
                    by_cases k9 : k < 9
                    · rw [if_pos k9, if_pos k9]
                      show _ = zln (st.1 s).2.1 a b (k - 1)
                      rw [hv.1.2.2.1 _ (by omega), (zln_po hv.1 ha hb hab hba).2.2.1 _ (by omega)]
                    · rw [if_neg k9, if_neg k9]
                · have := d1 (k - 1) (by omega)
                  rw [show 58 * s + 1 + (k - 1) = 58 * s + k by omega] at this
                  rw [this]
                  congr 1
                  unfold zEn
                  rw [if_neg (by omega), if_pos (by omega)]) (fun j hj => by
                rw [zup_eq, d2 j (by omega), zup_ne (by decide)])
              have hX : zMX st.2.1 st.2.2.1 st.2.2.2.1 st.2.2.2.2.1 st.2.2.2.2.2 I (va_up (va_up A 100 W) 99 D) := hM.2.2.same (fun p hp => by rw [zup_ne (by omega), zup_ne (by omega)]) (fun _ _ => rfl)
              have hW2 : ∀ k, k < 174 → va_up (va_up A 100 W) 99 D 100 k = nI (zEs st.1 k) := fun k hk => by
                rw [zup_ne (by decide), zup_eq, hW k hk, hM.1 k hk]
              have hnew : zMIv (va_up st.1 s ((st.1 s).1, zln (st.1 s).2.1 a b, (st.1 s).2.2), st.2) I (va_up (va_up A 100 W) 99 D) := ⟨hsg, zup_valid hM.2.1 (zVl_ln hv ha hb hab hba), hX⟩
              have HN : zMR (va_up (va_up A 100 W) 99 D) s (va_up st.1 s ((st.1 s).1, zln (st.1 s).2.1 a b, (st.1 s).2.2) s).1 (va_up st.1 s ((st.1 s).1, zln (st.1 s).2.1 a b, (st.1 s).2.2) s).2.1 (va_up st.1 s ((st.1 s).1, zln (st.1 s).2.1 a b, (st.1 s).2.2) s).2.2.1 (va_up st.1 s ((st.1 s).1, zln (st.1 s).2.1 a b, (st.1 s).2.2) s).2.2.2 := hnew.m3 s s3
              rw [zup_eq] at HN
              refine zvRd ob_98 (m_belowMany HN) (by decide) (zvI1 ob_98 (m_keeps hX hM.2.1 hW2 _) (by decide) ?_)
              rintro w3 ⟨c, K, rfl, hK⟩
              exact ⟨rfl, _, _, rfl, zMI_push hM (zVl_ln hv ha hb hab hba) hsg hK, (((((zLoE.refl I A).a (p := 100) (by decide)).a (p := 99) (by decide)).a (p := 101) (by decide)).f (p := 98) (by decide)).pc⟩
          · refine zAc.mk2 0 st 6 6 (by decide) (by decide) (fun I A t hC => ?_) (fun I A t hM => ?_)
            · have hid := zln_id (hC.2.1 s hs.1).1 hlt
              have hcl := cls I A t hC
              rw [hid] at hcl
              have e0 : nI (ztw (st.1 s).1 (st.1 s).2.1) - nI (ztw (st.1 s).1 (st.1 s).2.1) = 0 := Int32.sub_self _
              rw [e0] at hcl
              exact ⟨_, hcl, fun v w1 ⟨e1, I', A', e2, e3, e4⟩ => ⟨e1, I', A', e2, (e4.resolve_right (fun z => z.1 rfl)).2, e3⟩⟩
            · have h1 := m_thing1 (X := X) (I := I) (t := t) (y := nI a) hM.m3 hs
              have h2 := m_thing1 (X := X) (I := I) (t := t) (y := nI b) hM.m3 hs
              obtain ⟨s3, rfl, s0⟩ := hs
              have H : zMR A s (st.1 s).1 (st.1 s).2.1 (st.1 s).2.2.1 (st.1 s).2.2.2 := hM.m3 s s3
              have h8 := H.2.1.1
              refine eX12_puts _ _ _ _ (bX12_puts_0 _ _ _ _ (zvRd ob_98 h1 (by decide) ?_))
              rw [zB_t hy]
              refine zvRd ob_98 h2 (by decide) ?_
              rw [zB_t hz, zi_eq (by omega) (by omega), if_neg hab]
              refine zvRd ob_98 (m_isBelow H (by omega) (by omega)) (by decide) ?_
              rw [zB_f hba]
              refine zvRd ob_98 (m_isBelow H (by omega) (by omega)) (by decide) ?_
              rw [zB_t hlt]
              exact zQb_.id hM
      · rw [Bool.not_eq_true] at hz
        refine zAc.mk (-2) st 6 6 (by decide) (by decide) (fun I A t hC => ?_) (fun I A t hM => ?_)
        · have h0 := hC.ns hs.1
          have h8 := h0.1.n8
          refine eX11_puts _ _ _ _ (bX11_puts_0 _ _ _ _ (zvO1 ob_0 (v_orderWith2 hC.1 hs ha) (by decide) (zvRd h0.1.1.ob (v_has h0.1 z) (by decide) ?_)))
          rw [zin_h (by omega), zB_f hz]
          exact zQa.id hC
        · refine eX12_puts _ _ _ _ (bX12_puts_0 _ _ _ _ (zvRd ob_98 (m_thing1 hM.m3 hs) (by decide) ?_))
          rw [zB_t hy]
          refine zvRd ob_98 (m_thing1 hM.m3 hs) (by decide) ?_
          rw [zB_f hz]
          exact zQb_.id hM
    · rw [Bool.not_eq_true] at hy
      refine zAc.mk (-2) st 6 6 (by decide) (by decide) (fun I A t hC => ?_) (fun I A t hM => ?_)
      · exact eX11_puts _ _ _ _ (bX11_puts_0 _ _ _ _ (zvO0 ob_0 (v_orderWith1 hC.1 hs hy) (by decide) (zQa.id hC)))
      · refine eX12_puts _ _ _ _ (bX12_puts_0 _ _ _ _ (zvRd ob_98 (m_thing1 hM.m3 hs) (by decide) ?_))
        rw [zB_f hy]
        exact zQb_.id hM
  · refine zAc.mk (-2) st 6 6 (by decide) (by decide) (fun I A t hC => ?_) (fun I A t hM => ?_)
    · exact eX11_puts _ _ _ _ (bX11_puts_0 _ _ _ _ (zvO0 ob_0 (v_orderWith0 hC.1 hn) (by decide) (zQa.id hC)))
    · refine eX12_puts _ _ _ _ (bX12_puts_0 _ _ _ _ (zvRd ob_98 (m_thing0 hM.m3 hn) (by decide) ?_))
      rw [if_pos rfl]
      exact zQb_.id hM
end ZA5
