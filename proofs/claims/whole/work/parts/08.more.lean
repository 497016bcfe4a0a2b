section ZM
variable {X : zX} {d kc ks : Nat} {M : zM} {pc : Nat} {L : zL} {st : List Value} {w : zW} {Q : Option Value → zW → Prop}
theorem z_objInit {idx p0 : Nat} (g1 : Cond.methodLink (zMy M).cls idx objectInit ∈ zG) (g2 : Cond.instanceMethod objectInit ∈ zG) (g3 : Cond.code objectInit ⟨#[0xb1]⟩ 1 none ∈ zG) (hd : decode (zMc M) pc = .ok (.invokespecial idx, 3)) (hW : (st.map fun v => v.category).sum ≤ 8) (hdd : 0 < d) (k : zRn X d kc ks M (pc + 3) L st w Q) : zRn X d kc ks M pc L (.ref p0 :: st) w Q := by
  intro p e R s m args below meth c H locs cells slots ls mc ms F hC hE hc hs hl hw hS
  have hkk := k p e R s m args below meth c H locs cells slots ls mc ms F hC hE hc hs hl hw hS
  obtain ⟨hx, hb, hml, hown, hts, hnm, hEX, hbs, hdf, hdl, hmc, hms⟩ := id hC
  refine W.objInit hx hb hown (hts _ g1) (hts _ g2) (hts _ g3) rfl (by rw [hml]; exact hl.1) (a := za X p0) (rest := st.map (zv X)) rfl hd (by omega) ?_ hkk
  have h0 := lv_room (m := m) (pc := pc) (ls := ls) (rest := st.map (zv X)) (st := st.map (zv X)) (by rw [zCat]; exact hW)
  have h1 : 2 * (F0 m pc ls ((Value.ref p0 :: st).map (zv X))).monitorRoom + ((st.map (zv X)).map fun v => v.category).sum ≤ 8 := h0
  omega
theorem z_mmax {idx : Nat} {x y : Int32} (g1 : Cond.methodLink (zMy M).cls idx Lib.Math.max.name ∈ zG) (g2 : Cond.static Lib.Math.max.name ∈ zG) (g3 : Cond.initialized "java/lang/Math" ∈ zG) (g4 : Cond.code Lib.Math.max.name Lib.Math.max.code 2 (some .int) ∈ zG) (hd : decode (zMc M) pc = .ok (.invokestatic idx, 3)) (hW : (st.map fun v => v.category).sum ≤ 8) (hdd : 0 < d) (k : zRn X d kc ks M (pc + 3) L (.int (if x < y then y else x) :: st) w Q) : zRn X d kc ks M pc L (.int y :: .int x :: st) w Q := by
  intro p e R s m args below meth c H locs cells slots ls mc ms F hC hE hc hs hl hw hS
  have hkk := k p e R s m args below meth c H locs cells slots ls mc ms F hC hE hc hs hl hw hS
  obtain ⟨hx, hb, hml, hown, hts, hnm, hEX, hbs, hdf, hdl, hmc, hms⟩ := id hC
  exact va_mmax hx hb (by rw [hml]; exact hl.1.symm) hown (hts _ g1) (hts _ g2) (hts _ g3) (hts _ g4) (by omega) (by rw [zCat]; omega) (by omega) (by omega) hd hkk
theorem z_mmin {idx : Nat} {x y : Int32} (g1 : Cond.methodLink (zMy M).cls idx Lib.Math.min.name ∈ zG) (g2 : Cond.static Lib.Math.min.name ∈ zG) (g3 : Cond.initialized "java/lang/Math" ∈ zG) (g4 : Cond.code Lib.Math.min.name Lib.Math.min.code 2 (some .int) ∈ zG) (hd : decode (zMc M) pc = .ok (.invokestatic idx, 3)) (hW : (st.map fun v => v.category).sum ≤ 8) (hdd : 0 < d) (k : zRn X d kc ks M (pc + 3) L (.int (if y < x then y else x) :: st) w Q) : zRn X d kc ks M pc L (.int y :: .int x :: st) w Q := by
  intro p e R s m args below meth c H locs cells slots ls mc ms F hC hE hc hs hl hw hS
  have hkk := k p e R s m args below meth c H locs cells slots ls mc ms F hC hE hc hs hl hw hS
  obtain ⟨hx, hb, hml, hown, hts, hnm, hEX, hbs, hdf, hdl, hmc, hms⟩ := id hC
  exact va_mmin hx hb (by rw [hml]; exact hl.1.symm) hown (hts _ g1) (hts _ g2) (hts _ g3) (hts _ g4) (by omega) (by rw [zCat]; omega) (by omega) (by omega) hd hkk
theorem z_mabs {idx : Nat} {x : Int32} (g1 : Cond.methodLink (zMy M).cls idx Lib.Math.abs.name ∈ zG) (g2 : Cond.static Lib.Math.abs.name ∈ zG) (g3 : Cond.initialized "java/lang/Math" ∈ zG) (g4 : Cond.code Lib.Math.abs.name Lib.Math.abs.code 1 (some .int) ∈ zG) (hd : decode (zMc M) pc = .ok (.invokestatic idx, 3)) (hW : (st.map fun v => v.category).sum ≤ 8) (hdd : 0 < d) (k : zRn X d kc ks M (pc + 3) L (.int (if 0 ≤ x then x else 0 - x) :: st) w Q) : zRn X d kc ks M pc L (.int x :: st) w Q := by
  intro p e R s m args below meth c H locs cells slots ls mc ms F hC hE hc hs hl hw hS
  have hkk := k p e R s m args below meth c H locs cells slots ls mc ms F hC hE hc hs hl hw hS
  obtain ⟨hx, hb, hml, hown, hts, hnm, hEX, hbs, hdf, hdl, hmc, hms⟩ := id hC
  exact va_mabs hx hb (by rw [hml]; exact hl.1.symm) hown (hts _ g1) (hts _ g2) (hts _ g3) (hts _ g4) (by omega) (by rw [zCat]; omega) (by omega) (by omega) hd hkk
theorem z_copy {idx a b n0 n1 : Nat} {f g : Nat → Int32} {sp dp n : Int32} (g1 : Cond.methodLink (zMy M).cls idx arraycopyName ∈ zG) (g2 : Cond.native arraycopyName ∈ zG) (g3 : Cond.static arraycopyName ∈ zG) (g4 : Cond.initialized "java/lang/System" ∈ zG) (hd : decode (zMc M) pc = .ok (.invokestatic idx, 3)) (hW : (st.map fun v => v.category).sum ≤ 8) (hdd : 0 < d)
    (ha : w[a]? = some (zI n0 f)) (hb0 : w[b]? = some (zI n1 g)) (h1 : ¬ sp < 0) (h2 : ¬ dp < 0) (h3 : ¬ n < 0) (h4 : sp.toNatClampNeg + n.toNatClampNeg ≤ n0) (h5 : dp.toNatClampNeg + n.toNatClampNeg ≤ n1)
    (kk : zRn X d kc ks M (pc + 3) L st (w.set b (zI n1 (va_cpy f g sp.toNatClampNeg dp.toNatClampNeg n.toNatClampNeg))) Q) : zRn X d kc ks M pc L (.int n :: .int dp :: .ref b :: .int sp :: .ref a :: st) w Q := by
  intro p e R s m args below meth c H locs cells slots ls mc ms F hC hE hc hs hl hw hS
  obtain ⟨hx, hb, hml, hown, hts, hnm, hEX, hbs, hdf, hdl, hmc, hms⟩ := id hC
  have hK := hEX.1
  have nn : ∀ z : Int32, ¬ z < 0 → z.toInt = (z.toNatClampNeg : Int) := by
    intro z hz
    have hz0 : (0 : Int) ≤ z.toInt := by
      have := Int32.not_lt.mp hz
      simpa using Int32.le_iff_toInt_le.mp this
    show z.toInt = ((z.toInt.toNat : Nat) : Int)
    omega
  have hnf : nativeFrameWords "java/lang/System" "arraycopy" 5 ≤ 40 := by decide
  have hroom : 2 * 0 + ((st.map (zv X)).map fun v => v.category).sum + (nativeFrameWords "java/lang/System" "arraycopy" 5 + 11) ≤ R.locals := by
    rw [zCat]
    omega
  show W _ _ _ _ _ _ _ _ _ _ _ _ _ _ _ (F0 m pc ls (.int n :: .int dp :: .ref (za X b) :: .int sp :: .ref (za X a) :: st.map (zv X)))
  rw [hw.adr ha, hw.adr hb0]
  intro T hT XX
  have hc0 : H[zb X + a]? = some (vp_cell (zcI X) (n0, .inl f)) := hw.2.2 a _ (zw_at ha)
  have hc1 : H[zb X + b]? = some (vp_cell (zcI X) (n1, .inl g)) := hw.2.2 b _ (zw_at hb0)
  obtain ⟨-, k0, hk0, cm0, hkk0⟩ := (hK.2 0 _ rfl).1 n0 (fun j => .int (f j))
  obtain ⟨-, k1, hk1, cm1, hkk1⟩ := (hK.2 0 _ rfl).1 n1 (fun j => .int (g j))
  obtain ⟨vm', X', step⟩ := XX.arraycopy hx hown (hts _ g1) (hts _ g2) (hts _ g3) (hts _ g4) (src := zb X + a) (dst := zb X + b) (cs := vp_cell (zcI X) (n0, .inl f)) (cd := vp_cell (zcI X) (n1, .inl g)) (srcPos := sp) (destPos := dp) (n := n) (by rw [hT]; exact hc0) (by rw [hT]; exact hc1)
    (fun _ h => by cases h) (fun _ h => by cases h) (fun h => by cases h) (fun h => by cases h) hk0 hk1 hkk0 hkk1 (by simp [refKind]) h1 h2 h3
    (by rw [nn sp h1, nn n h3]; show ¬ _ > ((arrV (zcI X) n0 (fun j => .int (f j))).slots.size : Int); rw [arrV_size]; omega)
    (by rw [nn dp h2, nn n h3]; show ¬ _ > ((arrV (zcI X) n1 (fun j => .int (g j))).slots.size : Int); rw [arrV_size]; omega)
    (fun vm₁ _ i hi => by
      have e : (vp_cell (zcI X) (n0, .inl f)).slots.getD (sp.toNatClampNeg + i) .null = .int (f (sp.toNatClampNeg + i)) := by
        show (arrV (zcI X) n0 (fun j => .int (f j))).slots.getD _ _ = _
        rw [Array.getD_eq_getD_getElem?, arrV_read _ _ (by omega)]
        rfl
      refine ⟨?_, ?_⟩
      · rw [e]
        rfl
      · rw [e]
        exact trivial)
    (g := F0 m pc ls (.int n :: .int dp :: .ref (zb X + b) :: .int sp :: .ref (zb X + a) :: st.map (zv X))) rfl (by rw [hml]; exact hl.1) (rest := st.map (zv X)) rfl (by rw [hb]; exact hd) (by omega) hroom
  have e1 : copied (vp_cell (zcI X) (n0, .inl f)) (vp_cell (zcI X) (n1, .inl g)) sp dp n = vp_cell (zcI X) (n1, .inl (va_cpy f g sp.toNatClampNeg dp.toNatClampNeg n.toNatClampNeg)) := va_copied (fun z => .int z) (zcI X) (zcI X) f g h4
  rw [e1] at X' step
  have hl2 : zb X + b < H.size := (Array.getElem?_eq_some_iff.mp hc1).1
  have hheap : ((T.setVm vm').setCell (zb X + b) (vp_cell (zcI X) (n1, .inl (va_cpy f g sp.toNatClampNeg dp.toNatClampNeg n.toNatClampNeg)))).heap = H.setIfInBounds (zb X + b) (vp_cell (zcI X) (n1, .inl (va_cpy f g sp.toNatClampNeg dp.toNatClampNeg n.toNatClampNeg))) := by rw [← hT]; rfl
  have oq : ∀ q : Nat, q ≠ zb X + b → (H.setIfInBounds (zb X + b) (vp_cell (zcI X) (n1, .inl (va_cpy f g sp.toNatClampNeg dp.toNatClampNeg n.toNatClampNeg))))[q]? = H[q]? := fun q hq => by simp [Array.getElem?_setIfInBounds, Ne.symm hq]
  obtain ⟨t, a1, b1⟩ := kk p e R s m args below meth c _ _ cells slots ls mc ms F hC hE hc hs hl (hw.put hb0 (H1 := H.setIfInBounds (zb X + b) (vp_cell (zcI X) (n1, .inl (va_cpy f g sp.toNatClampNeg dp.toNatClampNeg n.toNatClampNeg)))) (by simp) oq (show (H.setIfInBounds (zb X + b) _)[zb X + b]? = some (vp_cell (zcI X) (n1, .inl (va_cpy f g sp.toNatClampNeg dp.toNatClampNeg n.toNatClampNeg))) by simp [Array.getElem?_setIfInBounds, hl2]))
    ⟨by simp; exact hS.1, fun q g1 g2 => by
      rw [oq q (fun e => g2 (by rw [e]; exact Nat.le_add_right _ _))]
      exact hS.2.1 q g1 g2, fun q hq => by
      rcases List.mem_append.mp hq with h | h
      · exact hS.2.2 q h
      · obtain ⟨z, -, hz⟩ := List.mem_map.mp h
        rw [← hz]
        exact Nat.le_add_right _ _⟩ _ hheap X'
  exact ⟨t, step t a1, b1⟩
/-- entry idx of class own is class number ci, of N fields with these first values -/
def zNW (own : String) (idx ci N : Nat) (fs : List Value) : Prop := ∃ (C : String) (T : u_T) (ty0 : Nat → FieldType), vwCl[ci]? = some (C, T, N) ∧ (∀ w ∈ u_ws C T N, w ∈ zG) ∧ (∀ k, k < N → parseFieldDescriptor (T k).2.2.1 = some (ty0 k)) ∧ Cond.classLink own idx C ∈ zG ∧ Cond.instantiable C N ∈ zG ∧ Cond.initialized C ∈ zG ∧ (∀ X : zX, ∀ j, j < N → defaultValue (ty0 j) = vp_V (fs.map (zv X)) j)
theorem zSim.push {X : zX} {w : zW} {H H1 : Heap} {c2 : zC} (h : zSim X w H) (hb : w.length < zBig) (hz : H1.size = H.size + 1) (ho : ∀ q : Nat, q < H.size → H1[q]? = H[q]?) (h2 : va_at (zD X) vwCl (H.size, ze X c2) H1) : zSim X (w ++ [c2]) H1 := by
  refine ⟨by rw [hz, h.1, List.length_append]; simp; omega, by rw [List.length_append]; simp; omega, ?_⟩
  rw [← zw_app]
  refine va_P.app (h.2.2.kept (fun k x hx => ho x.1 ((h.2.2 k x hx).lt))) (fun k x hx => ?_)
  have hz : k < 1 := (List.getElem?_eq_some_iff.mp hx).1
  rw [show k = 0 by omega] at hx
  cases hx
  rw [← h.1]
  exact h2
theorem zSim.new {X : zX} {w : zW} {H : Heap} (h : zSim X w H) (hb : w.length < zBig) : H.size = za X w.length := by
  unfold za
  rw [if_pos hb]
  exact h.1
theorem z_new {idx ci N : Nat} {fs : List Value} (hf : zNW (zMy M).cls idx ci N fs) (hd : decode (zMc M) pc = .ok (.new idx, 3)) (hb0 : w.length < zBig) (k : zRn X d kc ks M (pc + 3) L (.ref w.length :: st) (w ++ [zO ci fs]) Q) : zRn X d (kc + 1) (ks + N) M pc L st w Q := by
  intro p e R s m args below meth c H locs cells slots ls mc ms F hC hE hc hs hl hw hS
  obtain ⟨hx, hb, hml, hown, hts, hnm, hEX, hbs, hdf, hdl, hmc, hms⟩ := id hC
  obtain ⟨C, T, ty0, f1, f2, f3, f4, f5, f6, f7⟩ := hf
  have hKn := hEX.1.1 ci _ f1
  refine W.newcK hx hb hown (hts _ f4) (hts _ f5) (hts _ f6) rfl hd (by omega) (by omega) hKn.2.1 rfl fun H1 kC hkC e1 z1 o1 => ?_
  have hw1 : zSim X (w ++ [zO ci fs]) H1 := hw.push hb0 z1 o1 ⟨_, f1, (u_born ty0 hts f2 hKn hkC e1 f3).to (f7 X)⟩
  have hkk := k p e R s m args below meth c H1 locs (cells + 1) (slots + N) ls mc ms F hC hE (by omega) (by omega) hl hw1 ⟨Nat.le_trans hS.1 (by omega), fun x h1 h2 => (o1 x (Nat.lt_of_lt_of_le h1 hS.1)).trans (hS.2.1 x h1 h2), hS.2.2⟩
  rw [hw.new hb0]
  exact hkk
theorem z_newa {n : Int32} {N : Nat} (g1 : Cond.arrayClass .int ∈ zG) (hd : decode (zMc M) pc = .ok (.newarray .int, 2)) (hn : n = nI N) (hN : N ≤ 100000) (hb0 : w.length < zBig) (k : zRn X d kc ks M (pc + 2) L (.ref w.length :: st) (w ++ [zI N (fun _ => 0)]) Q) : zRn X d (kc + 1) (ks + N) M pc L (.int n :: st) w Q := by
  intro p e R s m args below meth c H locs cells slots ls mc ms F hC hE hc hs hl hw hS
  obtain ⟨hx, hb, hml, hown, hts, hnm, hEX, hbs, hdf, hdl, hmc, hms⟩ := id hC
  subst hn
  have hbt : N * componentBytes (newarray.typeOf .int) ≤ 536870912 := by
    show N * 4 ≤ 536870912
    omega
  refine va_newaK (atype := .int) hx hb (hts _ g1) rfl hd (n := nI N) (N := N) (rest := st.map (zv X)) rfl (nI_pos (by omega)) (nI_clamp (by omega)) hbt (by omega) (by omega) rfl fun H1 cA e1 z1 o1 hAr hNm => ?_
  have hcA : cA = zcI X := by
    have h1 := (hEX.1.2 0 _ rfl).2
    exact Option.some.inj (hNm.symm.trans h1)
  subst hcA
  have hw1 : zSim X (w ++ [zI N (fun _ => 0)]) H1 := hw.push hb0 z1 o1 (by
    show H1[H.size]? = some (vp_cell _ _)
    show H1[H.size]? = some (vp_cell (zcI X) (N, .inl (fun _ => 0)))
    rw [vp_cell_i]
    exact e1)
  have hkk := k p e R s m args below meth c H1 locs (cells + 1) (slots + N) ls mc ms F hC hE (by omega) (by omega) hl hw1 ⟨Nat.le_trans hS.1 (by omega), fun x h1 h2 => (o1 x (Nat.lt_of_lt_of_le h1 hS.1)).trans (hS.2.1 x h1 h2), hS.2.2⟩
  rw [hw.new hb0]
  exact hkk
theorem z_anew {n : Int32} {N idx : Nat} (g1 : Cond.classLink (zMy M).cls idx "OrderGauge$Order" ∈ zG) (hd : decode (zMc M) pc = .ok (.anewarray idx, 3)) (hn : n = nI N) (hN : N ≤ 100000) (hb0 : w.length < zBig) (k : zRn X d kc ks M (pc + 3) L (.ref w.length :: st) (w ++ [zR N (fun _ => none)]) Q) : zRn X d (kc + 1) (ks + N) M pc L (.int n :: st) w Q := by
  intro p e R s m args below meth c H locs cells slots ls mc ms F hC hE hc hs hl hw hS
  obtain ⟨hx, hb, hml, hown, hts, hnm, hEX, hbs, hdf, hdl, hmc, hms⟩ := id hC
  subst hn
  have hcl : (nI N).toNatClampNeg = N := nI_clamp (by omega)
  refine W.anew hx hb hown (hts _ g1) (va_AO.use hEX.2.1) rfl hd (rest := st.map (zv X)) rfl (nI_pos (by omega)) (by rw [hcl]; omega) (by omega) (by rw [hcl]; omega) fun cA kA comp f1 f2 f3 f4 => ?_
  rw [hcl]
  have hcA : cA = zcO X := by
    obtain ⟨_, _, _, _, _, h1⟩ := (hEX.1.2 1 _ rfl).2
    exact Option.some.inj (f1.symm.trans h1)
  subst hcA
  generalize hH1 : H.push ({ cls := zcO X, slots := Array.replicate N .null, vm := .none } : Cell) = H1
  have z1 : H1.size = H.size + 1 := by rw [← hH1, Array.size_push]
  have e1 : H1[H.size]? = some (arrV (zcO X) N (fun _ => .null)) := by rw [← hH1, Array.getElem?_push_size, ← arrV_new]
  have o1 : ∀ q : Nat, q < H.size → H1[q]? = H[q]? := fun q hq => by rw [← hH1, Array.getElem?_push, if_neg (Nat.ne_of_lt hq)]
  have hw1 : zSim X (w ++ [zR N (fun _ => none)]) H1 := hw.push hb0 z1 o1 (by
    show H1[H.size]? = some (vp_cell (zcO X) (N, .inr (.inr (.inr (.inr (fun _ => none))))))
    rw [vp_cell_q]
    exact e1)
  have hkk := k p e R s m args below meth c H1 locs (cells + 1) (slots + N) ls mc ms F hC hE (by omega) (by omega) hl hw1 ⟨Nat.le_trans hS.1 (by omega), fun x h1 h2 => (o1 x (Nat.lt_of_lt_of_le h1 hS.1)).trans (hS.2.1 x h1 h2), hS.2.2⟩
  rw [hw.new hb0]
  exact hkk
end ZM
