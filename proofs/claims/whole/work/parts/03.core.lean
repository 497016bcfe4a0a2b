/-! ===== the core: one judgement zRn over a world that is a list of cells, place i at address base + i; zEv a method's contract ===== -/
/-- the words that every method may use: the tables' good words -/
def zG : List Cond := lw_tbl.filter goodWord
theorem zG_mem {w : Cond} (i : Nat) (h : lw_tbl[i]? = some w) (hg : goodWord w = true) : w ∈ zG := List.mem_filter.mpr ⟨List.mem_of_getElem? h, hg⟩
theorem zG_tbl {w : Cond} (h : w ∈ zG) : w ∈ lw_tbl := (List.mem_filter.mp h).1
theorem zG_good {Ts : List Cond} (h : ∀ w ∈ zG, w ∈ Ts) : GoodIn Ts zG := fun w hw => ⟨h w hw, good_of_word (List.mem_filter.mp hw).2⟩
/-- a cell: an array of ints, an array of references, an object (number of its class, fields) -/
abbrev zC : Type := (Nat × (Nat → Int32)) ⊕ ((Nat × (Nat → Option Nat)) ⊕ (Nat × List Value))
abbrev zI (n : Nat) (f : Nat → Int32) : zC := .inl (n, f)
abbrev zR (n : Nat) (f : Nat → Option Nat) : zC := .inr (.inl (n, f))
abbrev zO (ci : Nat) (fs : List Value) : zC := .inr (.inr (ci, fs))
abbrev zW : Type := List zC
/-- what is fixed over the run: launch, class numbers, base, class of int[], class of Order[], special addresses (0 the script; 1 + i the text i; 100 + i its bytes), the script's length and values -/
abbrev zX : Type := Launch × va_G × Nat × ClassId × ClassId × (Nat → Nat) × Nat × (Nat → Int32)
abbrev zl (X : zX) : Launch := X.1
abbrev zD (X : zX) : va_G := X.2.1
abbrev zb (X : zX) : Nat := X.2.2.1
abbrev zcI (X : zX) : ClassId := X.2.2.2.1
abbrev zcO (X : zX) : ClassId := X.2.2.2.2.1
abbrev zsa (X : zX) : Nat → Nat := X.2.2.2.2.2.1
abbrev zsL (X : zX) : Nat := X.2.2.2.2.2.2.1
abbrev zsx (X : zX) : Nat → Int32 := X.2.2.2.2.2.2.2
def zBig : Nat := 1000000
def za (X : zX) (i : Nat) : Nat := if i < zBig then zb X + i else zsa X (i - zBig)
def zv (X : zX) (v : Value) : Value := match v with
  | .ref i => .ref (za X i)
  | x => x
theorem zv_ref (X : zX) (i : Nat) : zv X (.ref i) = .ref (za X i) := rfl
theorem zv_int (X : zX) (i : Int32) : zv X (.int i) = .int i := rfl
theorem zv_cat (X : zX) (v : Value) : (zv X v).category = v.category := by cases v <;> rfl
def ze (X : zX) (c : zC) : va_E := match c with
  | .inl (n, f) => .inl (zcI X, n, .inl f)
  | .inr (.inl (n, f)) => .inl (zcO X, n, .inr (.inr (.inr (.inr (fun k => (f k).map (za X))))))
  | .inr (.inr (ci, fs)) => .inr (ci, fs.map (zv X))
def zw (X : zX) (w : zW) : va_W := w.mapIdx (fun i c => (zb X + i, ze X c))
theorem zw_at {X : zX} {w : zW} {i : Nat} {c : zC} (h : w[i]? = some c) : (zw X w)[i]? = some (zb X + i, ze X c) := by
  unfold zw
  rw [List.getElem?_mapIdx, h]
  rfl
theorem zw_len (X : zX) (w : zW) : (zw X w).length = w.length := by unfold zw; simp
theorem zw_set (X : zX) (w : zW) (i : Nat) (c : zC) : (zw X w).set i (zb X + i, ze X c) = zw X (w.set i c) := by
  apply List.ext_getElem?
  intro j
  unfold zw
  rw [List.getElem?_set, List.getElem?_mapIdx, List.getElem?_mapIdx, List.getElem?_set]
  by_cases h : i = j
  · subst h
    by_cases hl : i < w.length
    · simp [hl]
    · simp [hl]
  · simp [h]
theorem zw_app (X : zX) (w : zW) (c : zC) : zw X w ++ [(zb X + w.length, ze X c)] = zw X (w ++ [c]) := by
  unfold zw
  rw [List.mapIdx_append]
  simp
/-- the tables' array classes -/
abbrev zty (X : zX) : List (ClassId × FieldType) := [(zcI X, .int), (zcO X, .object "OrderGauge$Order")]
def zA (X : zX) : Nat → Prop := fun q => zb X ≤ q
def zSim (X : zX) (w : zW) (H : Heap) : Prop := H.size = zb X + w.length ∧ w.length ≤ zBig ∧ va_P (zD X) vwCl (zw X w) H
theorem zSim.D {X : zX} {w : zW} : va_D (zA X) (zw X w) := by
  refine ⟨fun i j p q hi hj e => ?_, fun k q hk => ?_⟩
  · unfold zw at hi hj
    rw [List.getElem?_mapIdx] at hi hj
    cases h1 : w[i]? with
    | none => rw [h1] at hi; cases hi
    | some c1 =>
      cases h2 : w[j]? with
      | none => rw [h2] at hj; cases hj
      | some c2 =>
        rw [h1] at hi; rw [h2] at hj
        cases hi; cases hj
        simp only [] at e
        omega
  · unfold zw at hk
    rw [List.getElem?_mapIdx] at hk
    cases h1 : w[k]? with
    | none => rw [h1] at hk; cases hk
    | some c1 =>
      rw [h1] at hk
      cases hk
      exact Nat.le_add_right _ _
/-- the nest's words -/
def zNest : List (String × Nat × MethodName) := [("OrderGauge", 15, yX5_init), ("OrderGauge$Order", 20, yX8_init), ("OrderGauge$Past", 21, yX5_init), ("OrderGauge", 50, yX1_init), ("OrderGauge", 57, yX4_init), ("OrderGauge", 64, yX2_init), ("OrderGauge", 71, yX9_init), ("OrderGauge", 78, yX3_init), ("OrderGauge$Likeness", 28, yX11_bit)]
/-- the texts: their lengths and bytes; by which entries they are named -/
def zsByt : List (List Int32) := [[111, 114, 100, 101, 114], [114, 111, 119], [111, 114, 100, 101, 114, 32], [114, 111, 119, 32], [44], [58], [60], [59]]
def zsLen : List Nat := [5, 3, 6, 4, 1, 1, 1, 1]
def zsTx : List (String × Nat × String × Nat) := [("OrderGauge$Reader", 38, "order", 0), ("OrderGauge$Reader", 83, "row", 1), ("OrderGauge$Order", 113, "order ", 2), ("OrderGauge$Order", 134, "row ", 3), ("OrderGaugeModel", 182, "order", 0), ("OrderGaugeModel", 191, "row", 1), ("OrderGaugeModel", 368, "order ", 2), ("OrderGaugeModel", 377, ",", 4), ("OrderGaugeModel", 379, ":", 5), ("OrderGaugeModel", 381, "<", 6), ("OrderGaugeModel", 383, ";", 7), ("OrderGaugeModel", 385, "row ", 3)]
/-- what stands behind every state of the run -/
def zEX (X : zX) (U : State) : Prop :=
  va_K (zD X) vwCl (zty X) U ∧ va_AO "OrderGauge$Order" U ∧ (∀ q ∈ zNest, va_Nw (.methodLinkNest q.1 q.2.1 q.2.2 "OrderGauge") U) ∧
  vk_S 8 zsLen zsByt (fun i => zsa X (1 + i)) (fun i => zsa X (100 + i)) (zA X) U U.heap ∧ (∀ q ∈ zsTx, vk_R q.1 q.2.1 q.2.2.1 (zsa X (1 + q.2.2.2)) U) ∧
  va_Z "java/lang/String" "COMPACT_STRINGS" "Z" (.int 1) (zA X) U U.heap ∧ (va_Z "jdk/internal/util/Preconditions" "SIOOBE_FORMATTER" "Ljava/util/function/BiFunction;" .null (zA X) U U.heap ∨ va_Z "jdk/internal/util/Preconditions" "SIOOBE_FORMATTER" "Ljava/util/function/BiFunction;" (.ref (zsa X 99)) (zA X) U U.heap) ∧
  va_X (zsa X 0) (zsL X) (zsx X) U U.heap ∧ zsa X 0 < zb X ∧ zsL X < 2 ^ 31
theorem zEX.step {X : zX} {s U : State} {H : Heap} {locs : List Loc} (h : zEX X s) (hS : va_S (zA X) s.heap H locs) (hU : U.heap = H) (hW : s.WarmedH U.vm) (hz : zb X ≤ s.heap.size) : zEX X U := by
  obtain ⟨h1, h2, h3, h4, h5, h6, h7, h8, h9, h10⟩ := h
  have hq : ∀ a : Nat, a < s.heap.size → ¬ zA X a → U.heap[a]? = s.heap[a]? := by rw [hU]; exact hS.2.1
  refine ⟨va_K.moved hW.alike h1, va_AO.moved hW.alike h2, fun q hq => va_Nw.warmM hW (h3 q hq), vk_S.moved hW.alike (h4.kept hq), fun q hq => vk_R.warm hW (h5 q hq), va_Z.moved hW.alike (h6.kept hq), h7.imp (fun h => va_Z.moved hW.alike (h.kept hq)) (fun h => va_Z.moved hW.alike (h.kept hq)), va_X.moved hW.alike (h8.kept (hq _ (by omega) (fun q => by unfold zA at q; omega))), h9, h10⟩
theorem zSim.adr {X : zX} {w : zW} {H : Heap} (h : zSim X w H) {i : Nat} {c : zC} (hi : w[i]? = some c) : za X i = zb X + i := by
  have h1 := (List.getElem?_eq_some_iff.mp hi).1
  have h2 := h.2.1
  unfold za
  rw [if_pos (by omega)]
