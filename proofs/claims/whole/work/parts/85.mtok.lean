/-! ===== told: the model's small steps ===== -/
def zFm (I0 A0 I A : zF2) : Prop := (∀ p, p ≠ 99 → A p = A0 p) ∧ (∀ p, p ≠ 98 → I p = I0 p) ∧ ∀ k, (k < 6 ∨ 13 ≤ k) → I 98 k = I0 98 k
def zQl (I0 A0 : zF2) (T : zBy) (tk : zTok) (I A : zF2) : Prop := zTV T tk ∧ zMt T I A ∧ zCm T tk I ∧ zFm I0 A0 I A ∧ I 98 6 = 0 ∧ I 98 7 = -1 ∧ I 98 12 = 0
def zBm (I0 A0 : zF2) (kp : Nat × Nat) (I A : zF2) : Prop := zFm I0 A0 I A ∧ I 98 6 = nI kp.1 ∧ I 98 7 = nI kp.2 ∧ I 98 12 = 1
theorem zF8.fm {I0 A0 I I' A : zF2} (h : zF8 I I') (H : zFm I0 A0 I A) : zFm I0 A0 I' A := ⟨H.1, fun p hp => (h.1 p hp).trans (H.2.1 p hp), fun k hk => (h.2 k (by omega)).trans (H.2.2 k hk)⟩
theorem zFm.a {I0 A0 I A : zF2} (H : zFm I0 A0 I A) (D : Nat → Int32) : zFm I0 A0 I (va_up A 99 D) := ⟨fun p hp => (zup_ne hp).trans (H.1 p hp), H.2.1, H.2.2⟩
theorem zBm.a {I0 A0 I A : zF2} {kp : Nat × Nat} (H : zBm I0 A0 kp I A) (D : Nat → Int32) : zBm I0 A0 kp I (va_up A 99 D) := ⟨H.1.a D, H.2⟩
theorem zQl.a {I0 A0 I A : zF2} {T : zBy} {tk : zTok} (H : zQl I0 A0 T tk I A) (D : Nat → Int32) : zQl I0 A0 T tk I (va_up A 99 D) := ⟨H.1, ⟨H.2.1.1, H.2.1.2.1, fun i hi => by rw [zup_ne (by decide)]; exact H.2.1.2.2 i hi⟩, H.2.2.1, H.2.2.2.1.a D, H.2.2.2.2⟩
section ZMt
variable {X : zX} {I A I0 A0 : zF2} {t : zW} {T : zBy} {tk : zTok} {d : Nat} {kp : Nat × Nat} {K : zW → Prop} {KI : Int32 → zW → Prop}
theorem n_faults (h : zQl I0 A0 T tk I A) (k : Nat) (hd : 0 < d) (kk : ∀ I', zBm I0 A0 (k, tk.2.1) I' A → K (zWd I' A t)) : zIs (zWd I A t) 98 11 ∧ zCallV X d MX12_faults [.ref 98, .int (nI k)] (zWd I A t) K := by
  obtain ⟨h1, h2, h3, h4, h5, h6, h7⟩ := h
  refine zvV ob_98 (d1 := 0) (P := fun w1 => ∃ I', w1 = zWd I' A t ∧ zBm I0 A0 (k, tk.2.1) I' A) (eX12_faults _ _ (bX12_faults_0 _ _ ⟨_, fi_98_12.rd, ?_⟩)) hd (by rintro w1 ⟨I', rfl, hb⟩; exact kk I' hb)
  rw [h7, if_pos rfl]
  refine ⟨_, fi_98_12.wr, _, fi_98_6.wr, _, fi_98_9.rd, _, fi_98_7.wr, rfl, _, rfl, ⟨h4.1, fun p hp => ?_, fun j hj => ?_⟩, ?_, ?_, ?_⟩
  · rw [zup_ne hp, zup_ne hp, zup_ne hp]
    exact h4.2.1 p hp
  · exact (zIf_ne _ _ (by omega)).trans ((zIf_ne _ _ (by omega)).trans ((zIf_ne I _ (by omega)).trans (h4.2.2 j hj)))
  · exact (zIf_ne _ _ (by decide)).trans (zIf_eq _ _ _)
  · refine (zIf_eq _ _ _).trans ?_
    exact (zIf_ne _ _ (by decide)).trans ((zIf_ne I _ (by decide)).trans h3.2.1)
  · exact (zIf_ne _ _ (by decide)).trans ((zIf_ne _ _ (by decide)).trans (zIf_eq I _ _))
theorem n_faultsB (h : zBm I0 A0 kp I A) (k : Int32) (hd : 0 < d) (kk : K (zWd I A t)) : zIs (zWd I A t) 98 11 ∧ zCallV X d MX12_faults [.ref 98, .int k] (zWd I A t) K := by
  refine zvV ob_98 (d1 := 0) (P := fun w1 => w1 = zWd I A t) (eX12_faults _ _ (bX12_faults_0 _ _ ⟨_, fi_98_12.rd, ?_⟩)) hd (by rintro w1 rfl; exact kk)
  rw [h.2.2.2, if_neg (by decide)]
  exact ⟨rfl, rfl⟩
theorem n_next (h : zQl I0 A0 T tk I A) (hd : 3 < d) (kk : ∀ I', zQl I0 A0 T (znx T tk) I' A → K (zWd I' A t)) : zIs (zWd I A t) 98 11 ∧ zCallV X d MX12_next [.ref 98] (zWd I A t) K := by
  obtain ⟨h1, h2, h3, h4, h5, h6, h7⟩ := h
  refine zvV ob_98 (m_next h2 h3.2.2.1 h1.2.1) hd ?_
  rintro w1 ⟨I', rfl, hc, hf⟩
  exact kk I' ⟨(znx_v h1).1, hf.mt h2, hc, hf.fm h4, (hf.2 6 (by decide)).trans h5, (hf.2 7 (by decide)).trans h6, (hf.2 12 (by decide)).trans h7⟩
theorem n_passes (h : zQl I0 A0 T tk I A) (hd : 4 < d) (kk : ∀ I', zQl I0 A0 T (znx T tk) I' A → K (zWd I' A t)) : zIs (zWd I A t) 98 11 ∧ zCallV X d MX12_passes [.ref 98] (zWd I A t) K := by
  refine zvV ob_98 (d1 := 4) (P := fun w1 => ∃ I', w1 = zWd I' A t ∧ zQl I0 A0 T (znx T tk) I' A) (eX12_passes _ (bX12_passes_0 _ ⟨_, fi_98_12.rd, ?_⟩)) hd (by rintro w1 ⟨I', rfl, hb⟩; exact kk I' hb)
  rw [h.2.2.2.2.2.2, if_pos rfl]
  exact n_next h (by decide) (fun I' h' => ⟨rfl, I', rfl, h'⟩)
theorem n_passesB (h : zBm I0 A0 kp I A) (hd : 4 < d) (kk : K (zWd I A t)) : zIs (zWd I A t) 98 11 ∧ zCallV X d MX12_passes [.ref 98] (zWd I A t) K := by
  refine zvV ob_98 (d1 := 4) (P := fun w1 => w1 = zWd I A t) (eX12_passes _ (bX12_passes_0 _ ⟨_, fi_98_12.rd, ?_⟩)) hd (by rintro w1 rfl; exact kk)
  rw [h.2.2.2, if_neg (by decide)]
  exact ⟨rfl, rfl⟩
theorem n_mustB (h : zBm I0 A0 kp I A) (b : Int32) (hd : 5 < d) (kk : K (zWd I A t)) : zIs (zWd I A t) 98 11 ∧ zCallV X d MX12_must [.ref 98, .int b] (zWd I A t) K := by
  refine zvV ob_98 (d1 := 5) (P := fun w1 => w1 = zWd I A t) (eX12_must _ _ (bX12_must_0 _ _ ?_)) hd (by rintro w1 rfl; exact kk)
  by_cases c : b = 0
  · rw [if_pos c]
    exact n_faultsB h _ (by decide) (bX12_must_9 _ (n_passesB h (by decide) ⟨rfl, rfl⟩))
  · rw [if_neg c]
    exact bX12_must_9 _ (n_passesB h (by decide) ⟨rfl, rfl⟩)
theorem n_mustT (h : zQl I0 A0 T tk I A) {b : Bool} (hb : b = true) (hd : 5 < d) (kk : ∀ I', zQl I0 A0 T (znx T tk) I' A → K (zWd I' A t)) : zIs (zWd I A t) 98 11 ∧ zCallV X d MX12_must [.ref 98, .int (zB b)] (zWd I A t) K := by
  refine zvV ob_98 (d1 := 5) (P := fun w1 => ∃ I', w1 = zWd I' A t ∧ zQl I0 A0 T (znx T tk) I' A) (eX12_must _ _ (bX12_must_0 _ _ ?_)) hd (by rintro w1 ⟨I', rfl, hb⟩; exact kk I' hb)
  rw [zB_t hb]
  exact bX12_must_9 _ (n_passes h (by decide) (fun I' h' => ⟨rfl, I', rfl, h'⟩))
theorem n_mustF (h : zQl I0 A0 T tk I A) {b : Bool} (hb : b = false) (hd : 5 < d) (kk : ∀ I', zBm I0 A0 (1, tk.2.1) I' A → K (zWd I' A t)) : zIs (zWd I A t) 98 11 ∧ zCallV X d MX12_must [.ref 98, .int (zB b)] (zWd I A t) K := by
  refine zvV ob_98 (d1 := 5) (P := fun w1 => ∃ I', w1 = zWd I' A t ∧ zBm I0 A0 (1, tk.2.1) I' A) (eX12_must _ _ (bX12_must_0 _ _ ?_)) hd (by rintro w1 ⟨I', rfl, hb⟩; exact kk I' hb)
  rw [zB_f hb]
  exact n_faults h 1 (by decide) (fun I' h' => bX12_must_9 _ (n_passesB h' (by decide) ⟨rfl, I', rfl, h'⟩))
theorem n_hereB (h : zBm I0 A0 kp I A) (a b : Int32) (hd : 1 < d) (kk : KI a (zWd I A t)) : zIs (zWd I A t) 98 11 ∧ zCallI X d MX12_here [.ref 98, .int a, .int b] (zWd I A t) KI := by
  refine zvRd ob_98 (d1 := 1) (eX12_here _ _ _ (bX12_here_0 _ _ _ ⟨_, fi_98_12.rd, ?_⟩)) hd kk
  rw [h.2.2.2, if_neg (by decide)]
  exact ⟨rfl, rfl⟩
/-- here: the thing, or the fault -/
theorem n_here (h : zQl I0 A0 T tk I A) {lo hi : Nat} (hhi : hi < 2 ^ 31) (hlo : lo < 2 ^ 31) (hd : 1 < d) (k0 : ∀ f I', (f = 1 ∧ tk.1 ≠ 2 ∨ f = 2 ∧ tk.1 = 2 ∧ ¬ (lo ≤ zva T tk ∧ zva T tk ≤ hi)) → zBm I0 A0 (f, tk.2.1) I' A → KI (nI lo) (zWd I' A t)) (k1 : tk.1 = 2 → lo ≤ zva T tk ∧ zva T tk ≤ hi → KI (nI (zva T tk)) (zWd I A t)) : zIs (zWd I A t) 98 11 ∧ zCallI X d MX12_here [.ref 98, .int (nI lo), .int (nI hi)] (zWd I A t) KI := by
  have hva := zva_le T tk
  have hkd := h.1.2.2.2.2
  have hc := h.2.2.1
  refine zvI2 ob_98 (d1 := 1) (P := fun x w1 => (∃ f I', (f = 1 ∧ tk.1 ≠ 2 ∨ f = 2 ∧ tk.1 = 2 ∧ ¬ (lo ≤ zva T tk ∧ zva T tk ≤ hi)) ∧ zBm I0 A0 (f, tk.2.1) I' A ∧ x = nI lo ∧ w1 = zWd I' A t) ∨ (tk.1 = 2 ∧ (lo ≤ zva T tk ∧ zva T tk ≤ hi) ∧ x = nI (zva T tk) ∧ w1 = zWd I A t)) (eX12_here _ _ _ (bX12_here_0 _ _ _ ⟨_, fi_98_12.rd, ?_⟩)) hd ?_
  · rw [h.2.2.2.2.2.2, if_pos rfl]
    refine ⟨_, fi_98_10.rd, ?_⟩
    rw [hc.1]
    show if nI tk.1 = nI 2 then _ else _
    rw [zi_eq (by omega) (by decide)]
    have bad : ∀ f I', (f = 1 ∧ tk.1 ≠ 2 ∨ f = 2 ∧ tk.1 = 2 ∧ ¬ (lo ≤ zva T tk ∧ zva T tk ≤ hi)) → zBm I0 A0 (f, tk.2.1) I' A → zRn X 1 0 0 MX12_here 45 [some (.ref 98), some (.int (nI lo)), none] [] (zWd I' A t) (fun v w1 => ∃ x, v = some (.int x) ∧ ((∃ f I', (f = 1 ∧ tk.1 ≠ 2 ∨ f = 2 ∧ tk.1 = 2 ∧ ¬ (lo ≤ zva T tk ∧ zva T tk ≤ hi)) ∧ zBm I0 A0 (f, tk.2.1) I' A ∧ x = nI lo ∧ w1 = zWd I' A t) ∨ (tk.1 = 2 ∧ (lo ≤ zva T tk ∧ zva T tk ≤ hi) ∧ x = nI (zva T tk) ∧ w1 = zWd I A t))) := fun f I' hf hb => by
      refine bX12_here_45 _ _ ⟨_, fi_98_12.rd, ?_⟩
      rw [hb.2.2.2, if_neg (by decide)]
      exact ⟨_, rfl, Or.inl ⟨f, I', hf, hb, rfl, rfl⟩⟩
    by_cases c : tk.1 = 2
    · rw [if_pos c]
      refine ⟨_, fi_98_11.rd, ?_⟩
      rw [hc.2.2.2]
      refine zcRd (m_inB rfl rfl (nI (zva T tk))) (by decide) ?_
      have e : zbt (nI lo) (nI hi) (nI (zva T tk)) = decide (lo ≤ zva T tk ∧ zva T tk ≤ hi) := by
        unfold zbt
        refine decide_eq_decide.mpr ?_
        rw [zb_lt (by omega) (by omega), zb_lt (by omega) (by omega)]
        omega
      rw [e, zB_ifP]
      by_cases c2 : lo ≤ zva T tk ∧ zva T tk ≤ hi
      · rw [if_pos c2]
        refine bX12_here_45 _ _ ⟨_, fi_98_12.rd, ?_⟩
        rw [h.2.2.2.2.2.2, if_pos rfl]
        refine ⟨_, fi_98_11.rd, ?_⟩
        rw [hc.2.2.2]
        exact ⟨_, rfl, Or.inr ⟨c, c2, rfl, rfl⟩⟩
      · rw [if_neg c2]
        exact n_faults h 2 (by decide) (fun I' hb => bad 2 I' (Or.inr ⟨rfl, c, c2⟩) hb)
    · rw [if_neg c]
      exact n_faults h 1 (by decide) (fun I' hb => bad 1 I' (Or.inl ⟨rfl, c⟩) hb)
  · rintro x w1 (⟨f, I', hf, hb, rfl, rfl⟩ | ⟨c, c2, rfl, rfl⟩)
    · exact k0 f I' hf hb
    · exact k1 c c2
theorem m_isSign (h : zQl I0 A0 T tk I A) {c : Nat} (hc : c < 256) : zRd X 0 MX12_isSign [.ref 98, .int (nI c)] (zWd I A t) (zB (zsgn T c tk)) := by
  obtain ⟨h1, h2, h3, h4, h5, h6, h7⟩ := h
  have hk := h1.2.2.2.2
  have t1 := h2.1
  refine eX12_isSign _ _ (bX12_isSign_0 _ _ ⟨_, fi_98_12.rd, ?_⟩)
  rw [h7, if_pos rfl]
  refine ⟨_, fi_98_10.rd, ?_⟩
  rw [h3.1]
  show if nI tk.1 = nI 3 then _ else _
  rw [zi_eq (by omega) (by decide)]
  unfold zsgn
  by_cases c3 : tk.1 = 3
  · rw [if_pos c3]
    have hlt := h1.2.2.1 (by omega)
    have hlt2 := h1.2.1
    have hb := h2.2.2 tk.2.1 (by omega)
    refine ⟨_, fr_98_4.rd, _, fi_98_9.rd, nI (T.2 tk.2.1), ?_, ?_⟩
    · rw [h3.2.1, ar_102.rd (by omega), hb.1]
    · have := hb.2
      rw [zi_eq (by omega) (by omega)]
      by_cases cc : T.2 tk.2.1 = c
      · rw [if_pos cc, decide_eq_true ⟨c3, cc⟩]
        exact ⟨rfl, rfl⟩
      · rw [if_neg cc, decide_eq_false (fun z => cc z.2)]
        exact ⟨rfl, rfl⟩
  · rw [if_neg c3, decide_eq_false (fun z => c3 z.1)]
    exact ⟨rfl, rfl⟩
theorem m_isSignB (h : zBm I0 A0 kp I A) (c : Int32) : zRd X 0 MX12_isSign [.ref 98, .int c] (zWd I A t) (zB false) := by
  refine eX12_isSign _ _ (bX12_isSign_0 _ _ ⟨_, fi_98_12.rd, ?_⟩)
  rw [h.2.2.2, if_neg (by decide)]
  exact ⟨rfl, rfl⟩
end ZMt
