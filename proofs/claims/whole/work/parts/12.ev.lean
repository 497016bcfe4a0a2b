/-! ===== what a block asks, as functions of the world ===== -/
def zfI (w : zW) (p ci k : Nat) : Option Int32 := match w[p]? with
  | some (.inr (.inr (c, fs))) => if c = ci then (match fs[k]? with | some (.int x) => some x | _ => none) else none
  | _ => none
def zfR (w : zW) (p ci k : Nat) : Option Nat := match w[p]? with
  | some (.inr (.inr (c, fs))) => if c = ci then (match fs[k]? with | some (.ref x) => some x | _ => none) else none
  | _ => none
def zaI (w : zW) (a : Nat) (i : Int32) : Option Int32 := match w[a]? with
  | some (.inl (n, f)) => if i < 0 ∨ n ≤ i.toNatClampNeg then none else some (f i.toNatClampNeg)
  | _ => none
def zaL (w : zW) (a : Nat) : Option Int32 := match w[a]? with
  | some (.inl (n, _)) => some (nI n)
  | _ => none
def zaR (w : zW) (a : Nat) (i : Int32) : Option Nat := match w[a]? with
  | some (.inr (.inl (n, f))) => if i < 0 ∨ n ≤ i.toNatClampNeg then none else f i.toNatClampNeg
  | _ => none
def zsI (w : zW) (a : Nat) (i x : Int32) : Option zW := match w[a]? with
  | some (.inl (n, f)) => if i < 0 ∨ n ≤ i.toNatClampNeg then none else some (w.set a (zI n (upd f i.toNatClampNeg x)))
  | _ => none
def zsF (w : zW) (p ci k : Nat) (v : Value) : Option zW := match w[p]? with
  | some (.inr (.inr (c, fs))) => if c = ci ∧ k < fs.length then some (w.set p (zO ci (fs.set k v))) else none
  | _ => none
def zsR (w : zW) (a : Nat) (i : Int32) (q : Nat) : Option zW := match w[a]?, w[q]? with
  | some (.inr (.inl (n, f))), some (.inr (.inr (5, _))) => if i < 0 ∨ n ≤ i.toNatClampNeg then none else some (w.set a (zR n (va_up f i.toNatClampNeg (some q))))
  | _, _ => none
def zcp (w : zW) (a : Nat) (sp : Int32) (b : Nat) (dp n : Int32) : Option zW := match w[a]?, w[b]? with
  | some (.inl (n0, f)), some (.inl (n1, g)) => if sp < 0 ∨ dp < 0 ∨ n < 0 ∨ n0 < sp.toNatClampNeg + n.toNatClampNeg ∨ n1 < dp.toNatClampNeg + n.toNatClampNeg then none else some (w.set b (zI n1 (va_cpy f g sp.toNatClampNeg dp.toNatClampNeg n.toNatClampNeg)))
  | _, _ => none
def zIs (w : zW) (p ci : Nat) : Prop := ∃ fs, w[p]? = some (zO ci fs)
theorem zfI_e {w : zW} {p ci k : Nat} {x : Int32} (h : zfI w p ci k = some x) : ∃ fs, w[p]? = some (zO ci fs) ∧ fs[k]? = some (.int x) := by
  unfold zfI at h
  split at h
  · rename_i c fs e
    split at h
    · rename_i hc
      subst hc
      split at h
      · rename_i y e2
        cases h
        exact ⟨fs, e, e2⟩
      · cases h
    · cases h
  · cases h
theorem zfR_e {w : zW} {p ci k x : Nat} (h : zfR w p ci k = some x) : ∃ fs, w[p]? = some (zO ci fs) ∧ fs[k]? = some (.ref x) := by
  unfold zfR at h
  split at h
  · rename_i c fs e
    split at h
    · rename_i hc
      subst hc
      split at h
      · rename_i y e2
        cases h
        exact ⟨fs, e, e2⟩
      · cases h
    · cases h
  · cases h
theorem zaI_e {w : zW} {a : Nat} {i x : Int32} (h : zaI w a i = some x) : ∃ n f, w[a]? = some (zI n f) ∧ vp_in i n ∧ x = f i.toNatClampNeg := by
  unfold zaI at h
  split at h
  · rename_i n f e
    split at h
    · cases h
    · rename_i hc
      cases h
      exact ⟨n, f, e, hc, rfl⟩
  · cases h
theorem zaL_e {w : zW} {a : Nat} {x : Int32} (h : zaL w a = some x) : ∃ n f, w[a]? = some (zI n f) ∧ x = nI n := by
  unfold zaL at h
  split at h
  · rename_i n f e
    cases h
    exact ⟨n, f, e, rfl⟩
  · cases h
theorem zaR_e {w : zW} {a x : Nat} {i : Int32} (h : zaR w a i = some x) : ∃ n f, w[a]? = some (zR n f) ∧ vp_in i n ∧ f i.toNatClampNeg = some x := by
  unfold zaR at h
  split at h
  · rename_i n f e
    split at h
    · cases h
    · rename_i hc
      exact ⟨n, f, e, hc, h⟩
  · cases h
theorem zsI_e {w w1 : zW} {a : Nat} {i x : Int32} (h : zsI w a i x = some w1) : ∃ n f, w[a]? = some (zI n f) ∧ vp_in i n ∧ w1 = w.set a (zI n (upd f i.toNatClampNeg x)) := by
  unfold zsI at h
  split at h
  · rename_i n f e
    split at h
    · cases h
    · rename_i hc
      cases h
      exact ⟨n, f, e, hc, rfl⟩
  · cases h
theorem zsF_e {w w1 : zW} {p ci k : Nat} {v : Value} (h : zsF w p ci k v = some w1) : ∃ fs, w[p]? = some (zO ci fs) ∧ k < fs.length ∧ w1 = w.set p (zO ci (fs.set k v)) := by
  unfold zsF at h
  split at h
  · rename_i c fs e
    split at h
    · rename_i hc
      obtain ⟨rfl, h2⟩ := hc
      cases h
      exact ⟨fs, e, h2, rfl⟩
    · cases h
  · cases h
theorem zsR_e {w w1 : zW} {a q : Nat} {i : Int32} (h : zsR w a i q = some w1) : ∃ n f fs, w[a]? = some (zR n f) ∧ vp_in i n ∧ w[q]? = some (zO 5 fs) ∧ w1 = w.set a (zR n (va_up f i.toNatClampNeg (some q))) := by
  unfold zsR at h
  split at h
  · rename_i n f fs e1 e2
    split at h
    · cases h
    · rename_i hc
      cases h
      exact ⟨n, f, fs, e1, hc, e2, rfl⟩
  · cases h
theorem zcp_e {w w1 : zW} {a b : Nat} {sp dp n : Int32} (h : zcp w a sp b dp n = some w1) : ∃ n0 n1 f g, w[a]? = some (zI n0 f) ∧ w[b]? = some (zI n1 g) ∧ (¬ sp < 0) ∧ (¬ dp < 0) ∧ (¬ n < 0) ∧ sp.toNatClampNeg + n.toNatClampNeg ≤ n0 ∧ dp.toNatClampNeg + n.toNatClampNeg ≤ n1 ∧ w1 = w.set b (zI n1 (va_cpy f g sp.toNatClampNeg dp.toNatClampNeg n.toNatClampNeg)) := by
  unfold zcp at h
  split at h
  · rename_i n0 f n1 g e1 e2
    split at h
    · cases h
    · rename_i hc
      simp only [not_or] at hc
      cases h
      exact ⟨n0, n1, f, g, e1, e2, hc.1, hc.2.1, hc.2.2.1, by omega, by omega, rfl⟩
  · cases h
/-- calls -/
def zCall (X : zX) (d : Nat) (N : zM) (av : List Value) (w : zW) (K : Option Value → zW → Prop) : Prop := ∃ d1 Q1, d1 < d ∧ zEv X d1 0 0 N av w Q1 ∧ ∀ v w1, Q1 v w1 → K v w1
def zCallI (X : zX) (d : Nat) (N : zM) (av : List Value) (w : zW) (K : Int32 → zW → Prop) : Prop := zCall X d N av w (fun v w1 => ∃ x, v = some (.int x) ∧ K x w1)
def zCallR (X : zX) (d : Nat) (N : zM) (av : List Value) (w : zW) (K : Nat → zW → Prop) : Prop := zCall X d N av w (fun v w1 => ∃ x, v = some (.ref x) ∧ K x w1)
def zCallO (X : zX) (d : Nat) (N : zM) (av : List Value) (w : zW) (K0 : zW → Prop) (K1 : Nat → zW → Prop) : Prop := zCall X d N av w (fun v w1 => (v = some .null ∧ K0 w1) ∨ ∃ x, v = some (.ref x) ∧ K1 x w1)
def zCallV (X : zX) (d : Nat) (N : zM) (av : List Value) (w : zW) (K : zW → Prop) : Prop := zCall X d N av w (fun v w1 => v = none ∧ K w1)
/-- constructors: c1 cells, s1 slots -/
def zCallC (X : zX) (d kc ks : Nat) (N : zM) (av : List Value) (w : zW) (K : Nat → Nat → zW → Prop) : Prop := ∃ d1 c1 s1 Q1, d1 < d ∧ c1 ≤ kc ∧ s1 ≤ ks ∧ zEv X d1 c1 s1 N av w Q1 ∧ ∀ v w1, Q1 v w1 → v = none ∧ K (kc - c1) (ks - s1) w1
def zBool (x : Int32) : Prop := x = 0 ∨ x = 1
theorem zBool_n {x : Int32} (h : zBool x) : narrow .boolean (.int x) = .int x := by
  rcases h with rfl | rfl <;> rfl
section ZB
variable {X : zX} {d kc ks : Nat} {M : zM} {pc : Nat} {L : zL} {st : List Value} {w : zW} {Q : Option Value → zW → Prop}
theorem zq_fI {idx ci k p0 : Nat} {ty : FieldType} {fin : Bool} {x : Int32} (hf : zFL (zMy M).cls idx ci k ty fin) (hd : decode (zMc M) pc = .ok (.getfield idx, 3)) (h : zfI w p0 ci k = some x) (kk : zRn X d kc ks M (pc + 3) L (.int x :: st) w Q) : zRn X d kc ks M pc L (.ref p0 :: st) w Q := by
  obtain ⟨fs, e1, e2⟩ := zfI_e h
  exact z_getf hf hd e1 e2 kk
theorem zq_fR {idx ci k p0 : Nat} {ty : FieldType} {fin : Bool} {x : Nat} (hf : zFL (zMy M).cls idx ci k ty fin) (hd : decode (zMc M) pc = .ok (.getfield idx, 3)) (h : zfR w p0 ci k = some x) (kk : zRn X d kc ks M (pc + 3) L (.ref x :: st) w Q) : zRn X d kc ks M pc L (.ref p0 :: st) w Q := by
  obtain ⟨fs, e1, e2⟩ := zfR_e h
  exact z_getf hf hd e1 e2 kk
theorem zq_aI {a : Nat} {i x : Int32} (hd : decode (zMc M) pc = .ok (.iaload, 1)) (h : zaI w a i = some x) (kk : zRn X d kc ks M (pc + 1) L (.int x :: st) w Q) : zRn X d kc ks M pc L (.int i :: .ref a :: st) w Q := by
  obtain ⟨n, f, e1, e2, rfl⟩ := zaI_e h
  exact z_iald hd e1 e2 kk
theorem zq_aL {a : Nat} {x : Int32} (hd : decode (zMc M) pc = .ok (.arraylength, 1)) (h : zaL w a = some x) (kk : zRn X d kc ks M (pc + 1) L (.int x :: st) w Q) : zRn X d kc ks M pc L (.ref a :: st) w Q := by
  obtain ⟨n, f, e1, rfl⟩ := zaL_e h
  exact z_alen hd e1 kk
theorem zq_aR {a x : Nat} {i : Int32} (hd : decode (zMc M) pc = .ok (.aaload, 1)) (h : zaR w a i = some x) (kk : zRn X d kc ks M (pc + 1) L (.ref x :: st) w Q) : zRn X d kc ks M pc L (.int i :: .ref a :: st) w Q := by
  obtain ⟨n, f, e1, e2, e3⟩ := zaR_e h
  exact z_aald hd e1 e2 e3 kk
theorem zq_sI {a : Nat} {i x : Int32} {w1 : zW} (hd : decode (zMc M) pc = .ok (.iastore, 1)) (h : zsI w a i x = some w1) (kk : zRn X d kc ks M (pc + 1) L st w1 Q) : zRn X d kc ks M pc L (.int x :: .int i :: .ref a :: st) w Q := by
  obtain ⟨n, f, e1, e2, rfl⟩ := zsI_e h
  exact z_iast hd e1 e2 kk
theorem zq_sR {a q : Nat} {i : Int32} {w1 : zW} (hd : decode (zMc M) pc = .ok (.aastore, 1)) (h : zsR w a i q = some w1) (kk : zRn X d kc ks M (pc + 1) L st w1 Q) : zRn X d kc ks M pc L (.ref q :: .int i :: .ref a :: st) w Q := by
  obtain ⟨n, f, fs, e1, e2, e3, rfl⟩ := zsR_e h
  exact z_aast (ci := 5) hd e1 e2 e3 kk
theorem zq_sF {idx ci k p0 : Nat} {ty : FieldType} {v : Value} {w1 : zW} (hf : zFL (zMy M).cls idx ci k ty false) (hd : decode (zMc M) pc = .ok (.putfield idx, 3)) (hn : ∀ X, narrow ty (zv X v) = zv X v) (hfit : ∀ X, fits ty (zv X v) = true) (h : zsF w p0 ci k v = some w1) (kk : zRn X d kc ks M (pc + 3) L st w1 Q) : zRn X d kc ks M pc L (v :: .ref p0 :: st) w Q := by
  obtain ⟨fs, e1, e2, rfl⟩ := zsF_e h
  exact z_putf hf hd e1 e2 (hn X) (hfit X) kk
theorem zq_sFf {idx ci k p0 : Nat} {ty : FieldType} {v : Value} {w1 : zW} (hf : zFL (zMy M).cls idx ci k ty true) (hi0 : (zMy M).name = "<init>") (hd : decode (zMc M) pc = .ok (.putfield idx, 3)) (hn : ∀ X, narrow ty (zv X v) = zv X v) (hfit : ∀ X, fits ty (zv X v) = true) (h : zsF w p0 ci k v = some w1) (kk : zRn X d kc ks M (pc + 3) L st w1 Q) : zRn X d kc ks M pc L (v :: .ref p0 :: st) w Q := by
  obtain ⟨fs, e1, e2, rfl⟩ := zsF_e h
  exact z_putfin hf hi0 hd e1 e2 (hn X) (hfit X) kk
theorem zq_cp {idx a b : Nat} {sp dp n : Int32} {w1 : zW} (g1 : Cond.methodLink (zMy M).cls idx arraycopyName ∈ zG) (g2 : Cond.native arraycopyName ∈ zG) (g3 : Cond.static arraycopyName ∈ zG) (g4 : Cond.initialized "java/lang/System" ∈ zG) (hd : decode (zMc M) pc = .ok (.invokestatic idx, 3)) (hW : (st.map fun v => v.category).sum ≤ 8) (hdd : 0 < d) (h : zcp w a sp b dp n = some w1) (kk : zRn X d kc ks M (pc + 3) L st w1 Q) : zRn X d kc ks M pc L (.int n :: .int dp :: .ref b :: .int sp :: .ref a :: st) w Q := by
  obtain ⟨n0, n1, f, g, e1, e2, h1, h2, h3, h4, h5, rfl⟩ := zcp_e h
  exact z_copy g1 g2 g3 g4 hd hW hdd e1 e2 h1 h2 h3 h4 h5 kk
theorem zq_V {N : zM} {ci n idx p0 : Nat} {As : List Value} {K : Option Value → zW → Prop} (hM : zMV (zMy M).cls idx N ci n) (hd : decode (zMc M) pc = .ok (.invokevirtual idx, 3)) (hn : As.length = n) (hW : (st.map fun v => v.category).sum ≤ 8) (hp : zIs w p0 ci) (hv : zCall X d N (.ref p0 :: As) w K) (k : ∀ v w1, K v w1 → zRn X d kc ks M (pc + 3) L (v.toList ++ st) w1 Q) : zRn X d kc ks M pc L (As.reverse ++ .ref p0 :: st) w Q := by
  obtain ⟨d1, Q1, h1, h2, h3⟩ := hv
  obtain ⟨fs, hp⟩ := hp
  exact z_callV hM hd hp hn hW h1 h2 (fun v w1 q => k v w1 (h3 v w1 q))
theorem zq_S {N : zM} {n idx : Nat} {As : List Value} {K : Option Value → zW → Prop} (hM : zMS (zMy M).cls idx N n) (hd : decode (zMc M) pc = .ok (.invokestatic idx, 3)) (hn : As.length = n) (hW : (st.map fun v => v.category).sum ≤ 8) (hv : zCall X d N As w K) (k : ∀ v w1, K v w1 → zRn X d kc ks M (pc + 3) L (v.toList ++ st) w1 Q) : zRn X d kc ks M pc L (As.reverse ++ st) w Q := by
  obtain ⟨d1, Q1, h1, h2, h3⟩ := hv
  exact z_callS hM hd hn hW h1 h2 (fun v w1 q => k v w1 (h3 v w1 q))
theorem zq_SN {N : zM} {n idx : Nat} {As : List Value} {K : Option Value → zW → Prop} (hM : zMSN (zMy M).cls idx N n) (hd : decode (zMc M) pc = .ok (.invokestatic idx, 3)) (hn : As.length = n) (hW : (st.map fun v => v.category).sum ≤ 8) (hv : zCall X d N As w K) (k : ∀ v w1, K v w1 → zRn X d kc ks M (pc + 3) L (v.toList ++ st) w1 Q) : zRn X d kc ks M pc L (As.reverse ++ st) w Q := by
  obtain ⟨d1, Q1, h1, h2, h3⟩ := hv
  exact z_callSN hM hd hn hW h1 h2 (fun v w1 q => k v w1 (h3 v w1 q))
theorem zq_I {N : zM} {n idx p0 : Nat} {As : List Value} {K : Nat → Nat → zW → Prop} (hM : zMI (zMy M).cls idx N n) (hd : decode (zMc M) pc = .ok (.invokespecial idx, 3)) (hn : As.length = n) (hW : (st.map fun v => v.category).sum ≤ 8) (hv : zCallC X d kc ks N (.ref p0 :: As) w K) (k : ∀ kc1 ks1 w1, K kc1 ks1 w1 → zRn X d kc1 ks1 M (pc + 3) L st w1 Q) : zRn X d kc ks M pc L (As.reverse ++ .ref p0 :: st) w Q := by
  obtain ⟨d1, c1, s1, Q1, h1, h4, h5, h2, h3⟩ := hv
  have h := z_callI (kc := kc - c1) (ks := ks - s1) (L := L) hM hd hn hW h1 h2 (fun v w1 q => by
    obtain ⟨rfl, q2⟩ := h3 v w1 q
    exact k _ _ w1 q2)
  rw [Nat.sub_add_cancel h4, Nat.sub_add_cancel h5] at h
  exact h
theorem zq_new {idx ci N : Nat} {fs : List Value} (hf : zNW (zMy M).cls idx ci N fs) (hd : decode (zMc M) pc = .ok (.new idx, 3)) (h : w.length < zBig ∧ 1 ≤ kc ∧ N ≤ ks) (k : zRn X d (kc - 1) (ks - N) M (pc + 3) L (.ref w.length :: st) (w ++ [zO ci fs]) Q) : zRn X d kc ks M pc L st w Q := by
  have h9 := z_new hf hd h.1 k
  rw [Nat.sub_add_cancel h.2.1, Nat.sub_add_cancel h.2.2] at h9
  exact h9
theorem zq_newa {n : Int32} {N : Nat} (g1 : Cond.arrayClass .int ∈ zG) (hd : decode (zMc M) pc = .ok (.newarray .int, 2)) (h : n = nI N ∧ N ≤ 100000 ∧ w.length < zBig ∧ 1 ≤ kc ∧ N ≤ ks) (k : zRn X d (kc - 1) (ks - N) M (pc + 2) L (.ref w.length :: st) (w ++ [zI N (fun _ => 0)]) Q) : zRn X d kc ks M pc L (.int n :: st) w Q := by
  have h9 := z_newa g1 hd h.1 h.2.1 h.2.2.1 k
  rw [Nat.sub_add_cancel h.2.2.2.1, Nat.sub_add_cancel h.2.2.2.2] at h9
  exact h9
theorem zq_anew {n : Int32} {N idx : Nat} (g1 : Cond.classLink (zMy M).cls idx "OrderGauge$Order" ∈ zG) (hd : decode (zMc M) pc = .ok (.anewarray idx, 3)) (h : n = nI N ∧ N ≤ 100000 ∧ w.length < zBig ∧ 1 ≤ kc ∧ N ≤ ks) (k : zRn X d (kc - 1) (ks - N) M (pc + 3) L (.ref w.length :: st) (w ++ [zR N (fun _ => none)]) Q) : zRn X d kc ks M pc L (.int n :: st) w Q := by
  have h9 := z_anew g1 hd h.1 h.2.1 h.2.2.1 k
  rw [Nat.sub_add_cancel h.2.2.2.1, Nat.sub_add_cancel h.2.2.2.2] at h9
  exact h9
end ZB
section ZB2
variable {X : zX} {d kc ks : Nat} {M : zM} {pc : Nat} {L : zL} {st stk : List Value} {w : zW} {Q : Option Value → zW → Prop}
theorem zq_VI {N : zM} {ci n idx p0 : Nat} {As : List Value} {K : Int32 → zW → Prop} (hM : zMV (zMy M).cls idx N ci n) (hd : decode (zMc M) pc = .ok (.invokevirtual idx, 3)) (hn : As.length = n) (hs : As.reverse ++ .ref p0 :: st = stk) (hW : (st.map fun v => v.category).sum ≤ 8) (h : zIs w p0 ci ∧ zCallI X d N (.ref p0 :: As) w K) (k : ∀ x w1, K x w1 → zRn X d kc ks M (pc + 3) L (.int x :: st) w1 Q) : zRn X d kc ks M pc L stk w Q := by
  subst hs
  refine zq_V hM hd hn hW h.1 h.2 (fun v w1 q => ?_)
  obtain ⟨x, rfl, q⟩ := q
  exact k x w1 q
theorem zq_VR {N : zM} {ci n idx p0 : Nat} {As : List Value} {K : Nat → zW → Prop} (hM : zMV (zMy M).cls idx N ci n) (hd : decode (zMc M) pc = .ok (.invokevirtual idx, 3)) (hn : As.length = n) (hs : As.reverse ++ .ref p0 :: st = stk) (hW : (st.map fun v => v.category).sum ≤ 8) (h : zIs w p0 ci ∧ zCallR X d N (.ref p0 :: As) w K) (k : ∀ x w1, K x w1 → zRn X d kc ks M (pc + 3) L (.ref x :: st) w1 Q) : zRn X d kc ks M pc L stk w Q := by
  subst hs
  refine zq_V hM hd hn hW h.1 h.2 (fun v w1 q => ?_)
  obtain ⟨x, rfl, q⟩ := q
  exact k x w1 q
theorem zq_VO {N : zM} {ci n idx p0 : Nat} {As : List Value} {K0 : zW → Prop} {K1 : Nat → zW → Prop} (hM : zMV (zMy M).cls idx N ci n) (hd : decode (zMc M) pc = .ok (.invokevirtual idx, 3)) (hn : As.length = n) (hs : As.reverse ++ .ref p0 :: st = stk) (hW : (st.map fun v => v.category).sum ≤ 8) (h : zIs w p0 ci ∧ zCallO X d N (.ref p0 :: As) w K0 K1) (k0 : ∀ w1, K0 w1 → zRn X d kc ks M (pc + 3) L (.null :: st) w1 Q) (k : ∀ x w1, K1 x w1 → zRn X d kc ks M (pc + 3) L (.ref x :: st) w1 Q) : zRn X d kc ks M pc L stk w Q := by
  subst hs
  refine zq_V hM hd hn hW h.1 h.2 (fun v w1 q => ?_)
  rcases q with ⟨rfl, q⟩ | ⟨x, rfl, q⟩
  · exact k0 w1 q
  · exact k x w1 q
theorem zq_VV {N : zM} {ci n idx p0 : Nat} {As : List Value} {K : zW → Prop} (hM : zMV (zMy M).cls idx N ci n) (hd : decode (zMc M) pc = .ok (.invokevirtual idx, 3)) (hn : As.length = n) (hs : As.reverse ++ .ref p0 :: st = stk) (hW : (st.map fun v => v.category).sum ≤ 8) (h : zIs w p0 ci ∧ zCallV X d N (.ref p0 :: As) w K) (k : ∀ w1, K w1 → zRn X d kc ks M (pc + 3) L st w1 Q) : zRn X d kc ks M pc L stk w Q := by
  subst hs
  refine zq_V hM hd hn hW h.1 h.2 (fun v w1 q => ?_)
  obtain ⟨rfl, q⟩ := q
  exact k w1 q
theorem zq_SI {N : zM} {n idx : Nat} {As : List Value} {K : Int32 → zW → Prop} (hM : zMS (zMy M).cls idx N n) (hd : decode (zMc M) pc = .ok (.invokestatic idx, 3)) (hn : As.length = n) (hs : As.reverse ++ st = stk) (hW : (st.map fun v => v.category).sum ≤ 8) (h : zCallI X d N As w K) (k : ∀ x w1, K x w1 → zRn X d kc ks M (pc + 3) L (.int x :: st) w1 Q) : zRn X d kc ks M pc L stk w Q := by
  subst hs
  refine zq_S hM hd hn hW h (fun v w1 q => ?_)
  obtain ⟨x, rfl, q⟩ := q
  exact k x w1 q
theorem zq_SNI {N : zM} {n idx : Nat} {As : List Value} {K : Int32 → zW → Prop} (hM : zMSN (zMy M).cls idx N n) (hd : decode (zMc M) pc = .ok (.invokestatic idx, 3)) (hn : As.length = n) (hs : As.reverse ++ st = stk) (hW : (st.map fun v => v.category).sum ≤ 8) (h : zCallI X d N As w K) (k : ∀ x w1, K x w1 → zRn X d kc ks M (pc + 3) L (.int x :: st) w1 Q) : zRn X d kc ks M pc L stk w Q := by
  subst hs
  refine zq_SN hM hd hn hW h (fun v w1 q => ?_)
  obtain ⟨x, rfl, q⟩ := q
  exact k x w1 q
theorem zq_IC {N : zM} {n idx p0 : Nat} {As : List Value} {K : Nat → Nat → zW → Prop} (hM : zMI (zMy M).cls idx N n) (hd : decode (zMc M) pc = .ok (.invokespecial idx, 3)) (hn : As.length = n) (hs : As.reverse ++ .ref p0 :: st = stk) (hW : (st.map fun v => v.category).sum ≤ 8) (hv : zCallC X d kc ks N (.ref p0 :: As) w K) (k : ∀ kc1 ks1 w1, K kc1 ks1 w1 → zRn X d kc1 ks1 M (pc + 3) L st w1 Q) : zRn X d kc ks M pc L stk w Q := by
  subst hs
  exact zq_I hM hd hn hW hv k
theorem z_ireturn {x : Int32} (ty : FieldType) (hd : decode (zMc M) pc = .ok (.ireturn, 1)) (hr : zMr M = some ty) (hn : narrow ty (.int x) = .int x) (hq : Q (some (.int x)) w) : zRn X d kc ks M pc L [.int x] w Q := z_ret (v := some (.int x)) ⟨hd, ty, hr, hn⟩ rfl hq
theorem z_areturn {x : Nat} (nm : String) (hd : decode (zMc M) pc = .ok (.areturn, 1)) (hr : zMr M = some (.object nm)) (hq : Q (some (.ref x)) w) : zRn X d kc ks M pc L [.ref x] w Q := z_ret (v := some (.ref x)) ⟨hd, nm, hr⟩ rfl hq
theorem z_nreturn (nm : String) (hd : decode (zMc M) pc = .ok (.areturn, 1)) (hr : zMr M = some (.object nm)) (hq : Q (some .null) w) : zRn X d kc ks M pc L [.null] w Q := z_ret (v := some .null) ⟨hd, nm, hr⟩ rfl hq
theorem z_vreturn (hd : decode (zMc M) pc = .ok (.return_, 1)) (hr : zMr M = none) (hq : Q none w) : zRn X d kc ks M pc L [] w Q := z_ret (v := none) ⟨hd, hr⟩ rfl hq
theorem zsw_lo {x : Int32} {hi : Int} (h : x < 0) : x.toInt < 0 ∨ hi < x.toInt := by
  left
  have := Int32.lt_iff_toInt_lt.mp h
  simpa using this
theorem zsw_hi {x : Int32} {n : Nat} (hn : n < 2 ^ 31) {hi : Int} (e : (n : Int) = hi + 1) (h : nI n ≤ x) : x.toInt < 0 ∨ hi < x.toInt := by
  right
  have := Int32.le_iff_toInt_le.mp h
  rw [nI_toInt hn] at this
  omega
end ZB2
