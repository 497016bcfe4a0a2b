/-- a method: its name, code, number of locals, return type, whether longs may lie in its locals -/
abbrev zM : Type := MethodName × ByteArray × Nat × Option FieldType × Bool
abbrev zMy (M : zM) : MethodName := M.1
abbrev zMc (M : zM) : ByteArray := M.2.1
abbrev zMn (M : zM) : Nat := M.2.2.1
abbrev zMr (M : zM) : Option FieldType := M.2.2.2.1
abbrev zMl (M : zM) : Bool := M.2.2.2.2
abbrev zL : Type := List (Option Value)
def zLv (X : zX) (M : zM) (ls : Array Slot) (L : zL) : Prop := ls.size = zMn M ∧ lv_wf ls ∧ ∀ (i : Nat) (v : Value), L[i]? = some (some v) → ls[i]? = some (.val (zv X v)) ∧ (zMl M = true ∨ v.category = 1)
/-- where a value may leave: the instruction at pc returns it -/
def zRt (M : zM) (pc : Nat) (v : Option Value) : Prop := match v with
  | none => decode (zMc M) pc = .ok (.return_, 1) ∧ zMr M = none
  | some (.int x) => decode (zMc M) pc = .ok (.ireturn, 1) ∧ ∃ ty, zMr M = some ty ∧ narrow ty (.int x) = .int x
  | some (.ref _) => decode (zMc M) pc = .ok (.areturn, 1) ∧ ∃ nm, zMr M = some (.object nm)
  | some .null => decode (zMc M) pc = .ok (.areturn, 1) ∧ ∃ nm, zMr M = some (.object nm)
  | some _ => False
def zEnd (X : zX) (M : zM) (p : Program) (e : Env) (R : Room) (s : State) (m : MethodId) (args : Array Value) (below : List Frame) (meth : Method) (c : Code) (mc ms : Nat) (Q : Option Value → zW → Prop) (F : State → Prop) : Prop :=
  ∀ (pc : Nat) (ls : Array Slot) (v : Option Value) (w : zW) (H : Heap) (locs : List Loc) (cells slots : Nat), zRt M pc v → Q v w → zSim X w H → va_S (zA X) s.heap H locs → cells ≤ mc → slots ≤ ms →
    W p (zl X) e R s m args below meth c H locs cells slots F (F0 m pc ls (v.toList.map (zv X)))
def zCx (X : zX) (d : Nat) (M : zM) (p : Program) (R : Room) (s : State) (m : MethodId) (args : Array Value) (meth : Method) (c : Code) (mc ms : Nat) : Prop :=
  p.tables.exec = Jvm.exec ∧ c.code = zMc M ∧ c.maxLocals = zMn M ∧ s.vm.findClass (zMy M).cls = some m.cls ∧ (∀ w ∈ zG, w.before args s = true) ∧ meth.name = (zMy M).name ∧ zEX X s ∧ zb X ≤ s.heap.size ∧ d ≤ R.frames ∧ 60 * d ≤ R.locals ∧ mc ≤ R.cells ∧ ms ≤ R.slots
/-- THE JUDGEMENT: from pc with locals L, stack st, world w, budget of kc cells and ks slots, calls at most d deep: the method returns, with Q of its answer and world -/
def zRn (X : zX) (d kc ks : Nat) (M : zM) (pc : Nat) (L : zL) (st : List Value) (w : zW) (Q : Option Value → zW → Prop) : Prop :=
  ∀ (p : Program) (e : Env) (R : Room) (s : State) (m : MethodId) (args : Array Value) (below : List Frame) (meth : Method) (c : Code) (H : Heap) (locs : List Loc) (cells slots : Nat) (ls : Array Slot) (mc ms : Nat) (F : State → Prop),
    zCx X d M p R s m args meth c mc ms → zEnd X M p e R s m args below meth c mc ms Q F → cells + kc ≤ mc → slots + ks ≤ ms → zLv X M ls L → zSim X w H → va_S (zA X) s.heap H locs →
    W p (zl X) e R s m args below meth c H locs cells slots F (F0 m pc ls (st.map (zv X)))
/-- a contract's start and end -/
def zPc (X : zX) (av : List Value) (w : zW) : Array Value → State → Prop := fun v U => v = (av.map (zv X)).toArray ∧ zEX X U ∧ zSim X w U.heap
def zQc (X : zX) (Q : Option Value → zW → Prop) : Array Value → State → Outcome → State → Prop := fun _ st o t => (∃ (v : Option Value) (w : zW), o = .returned (v.map (zv X)) ∧ Q v w ∧ zSim X w t.heap) ∧ va_F (zA X) st t
abbrev zRoom (d kc ks : Nat) : Room := { frames := d, cells := kc, slots := ks, locals := 60 * d }
abbrev zWs (M : zM) : List Cond := Cond.code (zMy M) (zMc M) (zMn M) (zMr M) :: zG
/-- a method's contract -/
def zEv (X : zX) (d kc ks : Nat) (M : zM) (av : List Value) (w : zW) (Q : Option Value → zW → Prop) : Prop :=
  Met (zl X) (zMy M) (zWs M) (zRoom d kc ks) (zPc X av w) (zQc X Q) kc ks (zA X)
def zArgs : Nat → List Value → zL
  | n, [] => List.replicate n none
  | 0, _ :: _ => []
  | n + 1, v :: vs => if v.category = 2 then some v :: none :: zArgs (n - 1) vs else some v :: zArgs n vs
section ZR
variable {X : zX} {d kc ks : Nat} {M : zM} {pc : Nat} {L : zL} {st : List Value} {w : zW} {Q : Option Value → zW → Prop}
theorem zRn.conseq {Q' : Option Value → zW → Prop} (h : zRn X d kc ks M pc L st w Q) (hQ : ∀ v w, Q v w → Q' v w) : zRn X d kc ks M pc L st w Q' := by
  intro p e R s m args below meth c H locs cells slots ls mc ms F hC hE
  exact h p e R s m args below meth c H locs cells slots ls mc ms F hC (fun pc ls v w H locs cells slots h1 h2 => hE pc ls v w H locs cells slots h1 (hQ _ _ h2))
/-- fewer locals are known -/
def zLe (L' L : zL) : Prop := ∀ (i : Nat) (v : Value), L'[i]? = some (some v) → L[i]? = some (some v)
def zLeB : zL → zL → List Bool → Prop
  | [], _, _ => True
  | _ :: _, [], _ => False
  | a :: l, b :: k, true :: r => a = b ∧ zLeB l k r
  | a :: l, _ :: k, false :: r => a = none ∧ zLeB l k r
  | a :: l, b :: k, [] => a = b ∧ zLeB l k []
theorem zLe_of : ∀ {L' L : zL} (r : List Bool), zLeB L' L r → zLe L' L
  | [], _, _, _ => fun i v h => by simp at h
  | _ :: _, [], _, h => h.elim
  | a :: l, b :: k, true :: r, h => fun i v hv => by
    cases i with
    | zero => simp at hv ⊢; rw [← h.1]; exact hv
    | succ i => simp at hv ⊢; exact zLe_of r h.2 i v hv
  | a :: l, b :: k, false :: r, h => fun i v hv => by
    cases i with
    | zero => simp at hv; rw [h.1] at hv; cases hv
    | succ i => simp at hv ⊢; exact zLe_of r h.2 i v hv
  | a :: l, b :: k, [], h => fun i v hv => by
    cases i with
    | zero => simp at hv ⊢; rw [← h.1]; exact hv
    | succ i => simp at hv ⊢; exact zLe_of [] h.2 i v hv
theorem zRn.weak {L' : zL} (h : zRn X d kc ks M pc L' st w Q) (hL : zLe L' L) : zRn X d kc ks M pc L st w Q := by
  intro p e R s m args below meth c H locs cells slots ls mc ms F hC hE h1 h2 hl
  exact h p e R s m args below meth c H locs cells slots ls mc ms F hC hE h1 h2 ⟨hl.1, hl.2.1, fun i v hv => hl.2.2 i v (hL i v hv)⟩
theorem zRn.budget {kc' ks' : Nat} (h : zRn X d kc' ks' M pc L st w Q) (h1 : kc' ≤ kc) (h2 : ks' ≤ ks) : zRn X d kc ks M pc L st w Q := by
  intro p e R s m args below meth c H locs cells slots ls mc ms F hC hE g1 g2
  exact h p e R s m args below meth c H locs cells slots ls mc ms F hC hE (by omega) (by omega)
end ZR
theorem zLv_at {X : zX} {M : zM} {ls : Array Slot} {L : zL} (h : zLv X M ls L) {i : Nat} {v : Value} (hv : L[i]? = some (some v)) : ls[i]? = some (.val (zv X v)) := (h.2.2 i v hv).1
/-- the known locals as pairs -/
def zPr (X : zX) (L : zL) : List (Nat × Value) := (L.mapIdx (fun i o => o.map (fun v => (i, zv X v)))).filterMap id
theorem zPr_mem {X : zX} {L : zL} {q : Nat × Value} : q ∈ zPr X L ↔ ∃ v, L[q.1]? = some (some v) ∧ q.2 = zv X v := by
  unfold zPr
  rw [List.mem_filterMap]
  constructor
  · rintro ⟨o, ho, e⟩
    obtain ⟨i, hi⟩ := List.getElem?_of_mem ho
    rw [List.getElem?_mapIdx] at hi
    cases hL : L[i]? with
    | none => rw [hL] at hi; cases hi
    | some a =>
      rw [hL] at hi
      simp at hi
      subst hi
      cases a with
      | none => simp at e
      | some v =>
        simp at e
        subst e
        exact ⟨v, hL, rfl⟩
  · rintro ⟨v, hv, e⟩
    refine ⟨some q, ?_, rfl⟩
    refine List.mem_of_getElem? (i := q.1) ?_
    rw [List.getElem?_mapIdx, hv]
    simp [← e]
theorem zLv_has {X : zX} {M : zM} {ls : Array Slot} {L : zL} (h : zLv X M ls L) : lv_has ls (zMn M) (zPr X L) := by
  refine ⟨h.1, h.2.1, fun q hq => ?_⟩
  obtain ⟨v, hv, e⟩ := zPr_mem.mp hq
  rw [e]
  exact zLv_at h hv
theorem zLv_store {X : zX} {M : zM} {ls ls' : Array Slot} {L : zL} (h : zLv X M ls L) (hm : zMl M = false) {i : Nat} {v : Value} (hv : v.category = 1) (h' : lv_has ls' (zMn M) ((i, zv X v) :: (zPr X L).filter (fun q => !(q.1 == i) && !(q.1 + 1 == i && q.2.category == 2)))) : zLv X M ls' (L.set i (some v)) := by
  refine ⟨h'.1, h'.2.1, fun j u hj => ?_⟩
  rw [List.getElem?_set] at hj
  by_cases hij : i = j
  · subst hij
    simp at hj
    obtain ⟨hl, rfl⟩ := hj
    exact ⟨h'.2.2 (i, zv X v) List.mem_cons_self, Or.inr hv⟩
  · rw [if_neg hij] at hj
    have hc : u.category = 1 := by
      rcases (h.2.2 j u hj).2 with q | q
      · rw [hm] at q; cases q
      · exact q
    refine ⟨h'.2.2 (j, zv X u) (List.mem_cons_of_mem _ (List.mem_filter.mpr ⟨zPr_mem.mpr ⟨u, hj, rfl⟩, ?_⟩)), Or.inr hc⟩
    simp [zv_cat, hc]
    exact fun e => hij e.symm
theorem zLv_entry {X : zX} {M : zM} (av : List Value) (hn : (lg_sl (av.map (zv X))).length ≤ zMn M) (hm : zMl M = true ∨ ∀ v ∈ av, v.category = 1) : zLv X M ((lg_sl (av.map (zv X)) ++ List.replicate (zMn M - (lg_sl (av.map (zv X))).length) Slot.unset).toArray) (zArgs (zMn M) av) := by
  have h := lv_entry (av.map (zv X)) hn
  refine ⟨h.1, h.2.1, ?_⟩
  have key : ∀ (av : List Value) (n k : Nat) (i : Nat) (v : Value), (zArgs n av)[i]? = some (some v) → (k + i, zv X v) ∈ lv_args k (av.map (zv X)) ∧ v ∈ av := by
    intro av
    induction av with
    | nil =>
      intro n k i v hv
      simp [zArgs, List.getElem?_replicate] at hv
    | cons a av ih =>
      intro n k i v hv
      cases n with
      | zero => simp [zArgs] at hv
      | succ n =>
        simp only [zArgs] at hv
        simp only [List.map_cons, lv_args, zv_cat]
        by_cases hc : a.category = 2
        · rw [if_pos hc] at hv ⊢
          cases i with
          | zero => simp at hv; subst hv; exact ⟨List.mem_cons_self, List.mem_cons_self⟩
          | succ i =>
            cases i with
            | zero => simp at hv
            | succ i =>
              simp at hv
              have := ih (n - 1) (k + 2) i v hv
              rw [show k + (i + 1 + 1) = k + 2 + i by omega]
              exact ⟨List.mem_cons_of_mem _ this.1, List.mem_cons_of_mem _ this.2⟩
        · rw [if_neg hc] at hv ⊢
          cases i with
          | zero => simp at hv; subst hv; exact ⟨List.mem_cons_self, List.mem_cons_self⟩
          | succ i =>
            simp at hv
            have := ih n (k + 1) i v hv
            rw [show k + (i + 1) = k + 1 + i by omega]
            exact ⟨List.mem_cons_of_mem _ this.1, List.mem_cons_of_mem _ this.2⟩
  intro i v hv
  obtain ⟨k1, k2⟩ := key av _ 0 i v hv
  rw [Nat.zero_add] at k1
  exact ⟨h.2.2 _ k1, hm.imp id (fun q => q v k2)⟩
set_option maxHeartbeats 4000000 in
/-- a contract out of the judgement -/
theorem zEv.of {X : zX} {d kc ks : Nat} {M : zM} {av : List Value} {w : zW} {Q : Option Value → zW → Prop} (hy : plainName (zMy M).cls = true) (hn : (lg_sl (av.map (zv X))).length ≤ zMn M) (hm : zMl M = true ∨ ∀ v ∈ av, v.category = 1)
    (h : zRn X d kc ks M 0 (zArgs (zMn M) av) [] w Q) : zEv X d kc ks M av w Q := by
  refine Met.ofW (cc := zMc M) (maxL := zMn M) (ret := zMr M) hy rfl ?_
  intro p e s m args below meth c s₁ B hml hv
  obtain ⟨rfl, hEX, hSim⟩ := hv
  have hts := atoms_spec (ws := zWs M) B.pre
  rw [lg_entry_eq]
  have hlo := B.notSynchronized
  refine h p e _ s m _ below meth c s.heap [] 0 0 _ kc ks _ ⟨B.exec, B.bytes, hml, findClass_of_methodNamed B.named, fun w hw => hts w (List.mem_cons_of_mem _ hw), (name_of_methodNamed B.named B.method).1, hEX, by rw [hSim.1]; omega, Nat.le_refl _, Nat.le_refl _, Nat.le_refl _, Nat.le_refl _⟩ ?_ (by omega) (by omega) (zLv_entry av hn hm) hSim va_S.rf
  intro pc ls v w1 H locs cells slots hR hQ hS1 hS2 hc hs
  have hr := B.returns
  have hx := B.exec
  have hb := B.bytes
  refine W.widen (k := kc) (n := ks) hc hs ?_
  have fin : ∀ (t : State), t.heap = H → zQc X Q (av.map (zv X)).toArray s (.returned (v.map (zv X))) t := fun t ht => ⟨⟨v, w1, rfl, hQ, by rw [ht]; exact hS1⟩, hS2.F ht⟩
  cases v with
  | none =>
    obtain ⟨h1, h2⟩ := hR
    exact W.vret hx hb (hr.trans h2) (fun t ht hW => fin t ht) hS2.2.2 h1
  | some v =>
    cases v with
    | int x =>
      obtain ⟨h1, ty, h2, h3⟩ := hR
      exact W.zret hx hb (hr.trans h2) h3 (fun t ht hW => fin t ht) hS2.2.2 h1
    | ref q =>
      obtain ⟨h1, ty, h2⟩ := hR
      exact W.aret hx hb (hr.trans h2) (Or.inl ⟨ty, rfl⟩) (by first | exact Or.inl rfl | exact Or.inr ⟨_, rfl⟩) (fun t ht hW => fin t ht) hS2.2.2 h1
    | null =>
      obtain ⟨h1, ty, h2⟩ := hR
      exact W.aret hx hb (hr.trans h2) (Or.inl ⟨ty, rfl⟩) (by first | exact Or.inl rfl | exact Or.inr ⟨_, rfl⟩) (fun t ht hW => fin t ht) hS2.2.2 h1
    | long x => exact hR.elim
    | float x => exact hR.elim
    | double x => exact hR.elim
    | retAddr x => exact hR.elim
