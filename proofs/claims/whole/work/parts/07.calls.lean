/-- entry idx of class own is the method M of n arguments, called on an object of class number ci -/
def zMV (own : String) (idx : Nat) (M : zM) (ci n : Nat) : Prop := (∃ (T : u_T) (N : Nat), vwCl[ci]? = some ((zMy M).cls, T, N)) ∧ Cond.methodLink own idx (zMy M) ∈ zG ∧ Cond.instanceMethod (zMy M) ∈ zG ∧ Cond.selects (zMy M).cls (zMy M) (zMy M) ∈ zG ∧ Cond.initialized (zMy M).cls ∈ zG ∧ Cond.code (zMy M) (zMc M) (zMn M) (zMr M) ∈ zG ∧
  ((zMy M).cls ≠ "java/lang/invoke/MethodHandle" ∧ (zMy M).cls ≠ "java/lang/invoke/VarHandle" ∧ (parseMethodDescriptor (zMy M).desc).map (fun d => d.parameters.length) = some n) ∧ zMn M ≤ 41
def zMS (own : String) (idx : Nat) (M : zM) (n : Nat) : Prop := Cond.methodLink own idx (zMy M) ∈ zG ∧ Cond.static (zMy M) ∈ zG ∧ Cond.initialized (zMy M).cls ∈ zG ∧ Cond.code (zMy M) (zMc M) (zMn M) (zMr M) ∈ zG ∧
  ((zMy M).cls ≠ "java/lang/invoke/MethodHandle" ∧ (zMy M).cls ≠ "java/lang/invoke/VarHandle" ∧ (parseMethodDescriptor (zMy M).desc).map (fun d => d.parameters.length) = some n) ∧ zMn M ≤ 41
def zMSN (own : String) (idx : Nat) (M : zM) (n : Nat) : Prop := (own, idx, zMy M) ∈ zNest ∧ Cond.static (zMy M) ∈ zG ∧ Cond.initialized (zMy M).cls ∈ zG ∧ Cond.code (zMy M) (zMc M) (zMn M) (zMr M) ∈ zG ∧
  ((zMy M).cls ≠ "java/lang/invoke/MethodHandle" ∧ (zMy M).cls ≠ "java/lang/invoke/VarHandle" ∧ (parseMethodDescriptor (zMy M).desc).map (fun d => d.parameters.length) = some n) ∧ zMn M ≤ 41
def zMI (own : String) (idx : Nat) (M : zM) (n : Nat) : Prop := (Cond.methodLink own idx (zMy M) ∈ zG ∨ (own, idx, zMy M) ∈ zNest) ∧ (zMy M).name = "<init>" ∧ zMr M = none ∧ Cond.instanceMethod (zMy M) ∈ zG ∧ Cond.initialized (zMy M).cls ∈ zG ∧ Cond.code (zMy M) (zMc M) (zMn M) (zMr M) ∈ zG ∧
  ((zMy M).cls ≠ "java/lang/invoke/MethodHandle" ∧ (zMy M).cls ≠ "java/lang/invoke/VarHandle" ∧ (parseMethodDescriptor (zMy M).desc).map (fun d => d.parameters.length) = some n) ∧ zMn M ≤ 41
theorem zWs_good {M : zM} (h : Cond.code (zMy M) (zMc M) (zMn M) (zMr M) ∈ zG) : GoodIn zG (zWs M) := by
  intro w hw
  have hw2 : w ∈ zG := by
    rcases List.mem_cons.mp hw with rfl | q
    · exact h
    · exact q
  exact ⟨hw2, good_of_word (List.mem_filter.mp hw2).2⟩
theorem zCat (X : zX) (st : List Value) : (st.map (zv X)).map (fun v => v.category) = st.map (fun v => v.category) := by
  rw [List.map_map]
  apply List.map_congr_left
  intro v _
  exact zv_cat X v
theorem zPc_blind (X : zX) (av : List Value) (w : zW) : FrameBlind (zPc X av w) := by
  intro a U g mk q
  obtain ⟨q1, q2, q3⟩ := q
  refine ⟨q1, ?_, q3⟩
  obtain ⟨h1, h2, h3, h4, h5, h6, h7, h8, h9, h10⟩ := q2
  have ha : U.vm.Alike (U.calling g mk a).vm := Vm.Alike.refl U.vm
  exact ⟨va_K.moved ha h1, va_AO.moved ha h2, fun q hq => va_Nw.same rfl rfl (h3 q hq), vk_S.moved ha h4, fun q hq => vk_R.same rfl (h5 q hq), va_Z.moved ha h6, h7.imp (va_Z.moved ha) (va_Z.moved ha), va_X.moved ha h8, h9, h10⟩
section ZCALL
variable {X : zX} {d kc ks : Nat} {M : zM} {pc : Nat} {L : zL} {st : List Value} {w : zW} {Q : Option Value → zW → Prop}
/-- behind a call -/
theorem z_back {N : zM} {c1 s1 : Nat} {Q1 : Option Value → zW → Prop} {p : Program} {e : Env} {R : Room} {s : State} {m : MethodId} {args : Array Value} {below : List Frame} {meth : Method} {c : Code} {H : Heap} {locs : List Loc} {cells slots : Nat} {ls : Array Slot} {mc ms : Nat} {F : State → Prop} {st0 : List Value} {a : Array Value}
    (hr : va_Run p (zl X) e R s m args below meth c H locs cells slots c1 s1 (F0 m pc ls st0) (st.map (zv X)) (zQc X Q1 a) (zA X))
    (k : ∀ v w1, Q1 v w1 → zRn X d kc ks M (pc + 3) L (v.toList ++ st) w1 Q)
    (hC : zCx X d M p R s m args meth c mc ms) (hE : zEnd X M p e R s m args below meth c mc ms Q F) (hc : cells + (kc + c1) ≤ mc) (hs : slots + (ks + s1) ≤ ms) (hl : zLv X M ls L) (hS : va_S (zA X) s.heap H locs) :
    W p (zl X) e R s m args below meth c H locs cells slots F (F0 m pc ls st0) := by
  intro T hT XX
  obtain ⟨v, st₀, t, T', LL, h0, X', hL, e1, e2, ⟨⟨u, w1, hv, hq, hsim⟩, hz, hk⟩, stp⟩ := hr T hT XX
  cases hv
  rw [h0] at hz hk
  have hkk := k u w1 hq p e R s m args below meth c T'.heap (locs ++ LL) (cells + c1) (slots + s1) ls mc ms F hC hE (by omega) (by omega) hl (by rw [e1]; exact hsim)
    ⟨Nat.le_trans hS.1 (by rw [e1]; exact hz), fun q h1 h2 => by rw [e1, hk q (Nat.lt_of_lt_of_le h1 hS.1) h2]; exact hS.2.1 q h1 h2, fun q hq => by
      rcases List.mem_append.mp hq with h | h
      · exact hS.2.2 q h
      · exact hL q h⟩
  obtain ⟨t2, a1, b1⟩ := hkk T' rfl X'
  refine ⟨t2, stp t2 ?_, b1⟩
  cases u with
  | none => exact a1
  | some u => exact a1
theorem z_callV {N : zM} {d1 c1 s1 ci n idx p0 : Nat} {As fs : List Value} {Q1 : Option Value → zW → Prop} (hM : zMV (zMy M).cls idx N ci n) (hd : decode (zMc M) pc = .ok (.invokevirtual idx, 3)) (hp : w[p0]? = some (zO ci fs)) (hn : As.length = n) (hW : (st.map fun v => v.category).sum ≤ 8) (hdd : d1 < d)
    (hv : zEv X d1 c1 s1 N (.ref p0 :: As) w Q1) (k : ∀ v w1, Q1 v w1 → zRn X d kc ks M (pc + 3) L (v.toList ++ st) w1 Q) : zRn X d (kc + c1) (ks + s1) M pc L (As.reverse ++ .ref p0 :: st) w Q := by
  intro p e R s m args below meth c H locs cells slots ls mc ms F hC hE hc hs hl hw hS
  obtain ⟨⟨T, NN, m1⟩, m2, m3, m4, m5, m6, m7, m8⟩ := hM
  obtain ⟨hx, hb, hml, hown, hts, hnm, hEX, hbs, hdf, hdl, hmc, hms⟩ := id hC
  have hst : (As.reverse ++ .ref p0 :: st).map (zv X) = (As.map (zv X)).reverse ++ .ref (za X p0) :: st.map (zv X) := by
    rw [List.map_append, List.map_cons, List.map_reverse]
    rfl
  rw [hst]
  refine z_back (N := N) (va_runV (As := As.map (zv X)) (b := za X p0) (rest := st.map (zv X)) (cc := zMc M) (nL := zMn M) (Ts := zG) (own := (zMy M).cls) (C := (zMy N).cls) (n := n) ⟨hx, hb, hml, hown, hts⟩ hv ⟨callB_of n hts (zWs_good m6) rfl rfl rfl (hts _ m5) (hts _ m2) m7 ⟨by show d1 + 1 ≤ _; omega, by show 8 + (zMn N + 11) + 60 * d1 ≤ _; omega⟩, hts _ m3, hts _ m4⟩
    ⟨zPc_blind X _ _, ?_, fun U hU hWm => ⟨rfl, hEX.step hS hU hWm hbs, by rw [hU]; exact hw⟩⟩ rfl (by rw [List.length_map]; exact hn) hl.1 rfl (lv_room (by rw [zCat]; exact hW)) hd ⟨by omega, by omega⟩) k hC hE hc hs hl hS
  have h1 := va_recv hEX.1 hw.2.2 (ci := ci) (q0 := p0) m1 (zw_at hp)
  rw [hw.adr hp]
  exact h1
theorem z_callS {N : zM} {d1 c1 s1 n idx : Nat} {As : List Value} {Q1 : Option Value → zW → Prop} (hM : zMS (zMy M).cls idx N n) (hd : decode (zMc M) pc = .ok (.invokestatic idx, 3)) (hn : As.length = n) (hW : (st.map fun v => v.category).sum ≤ 8) (hdd : d1 < d)
    (hv : zEv X d1 c1 s1 N As w Q1) (k : ∀ v w1, Q1 v w1 → zRn X d kc ks M (pc + 3) L (v.toList ++ st) w1 Q) : zRn X d (kc + c1) (ks + s1) M pc L (As.reverse ++ st) w Q := by
  intro p e R s m args below meth c H locs cells slots ls mc ms F hC hE hc hs hl hw hS
  obtain ⟨m2, m3, m5, m6, m7, m8⟩ := hM
  obtain ⟨hx, hb, hml, hown, hts, hnm, hEX, hbs, hdf, hdl, hmc, hms⟩ := id hC
  have hst : (As.reverse ++ st).map (zv X) = (As.map (zv X)).reverse ++ st.map (zv X) := by
    rw [List.map_append, List.map_reverse]
  rw [hst]
  exact z_back (N := N) (va_runS (As := As.map (zv X)) (rest := st.map (zv X)) (cc := zMc M) (nL := zMn M) (Ts := zG) (own := (zMy M).cls) (n := n) ⟨hx, hb, hml, hown, hts⟩ hv ⟨callB_of n hts (zWs_good m6) rfl rfl rfl (hts _ m5) (hts _ m2) m7 ⟨by show d1 + 1 ≤ _; omega, by show 8 + (zMn N + 11) + 60 * d1 ≤ _; omega⟩, hts _ m3⟩
    ⟨zPc_blind X _ _, fun U hU hWm => ⟨rfl, hEX.step hS hU hWm hbs, by rw [hU]; exact hw⟩⟩ rfl (by rw [List.length_map]; exact hn) hl.1 rfl (lv_room (by rw [zCat]; exact hW)) hd ⟨by omega, by omega⟩) k hC hE hc hs hl hS
theorem z_callSN {N : zM} {d1 c1 s1 n idx : Nat} {As : List Value} {Q1 : Option Value → zW → Prop} (hM : zMSN (zMy M).cls idx N n) (hd : decode (zMc M) pc = .ok (.invokestatic idx, 3)) (hn : As.length = n) (hW : (st.map fun v => v.category).sum ≤ 8) (hdd : d1 < d)
    (hv : zEv X d1 c1 s1 N As w Q1) (k : ∀ v w1, Q1 v w1 → zRn X d kc ks M (pc + 3) L (v.toList ++ st) w1 Q) : zRn X d (kc + c1) (ks + s1) M pc L (As.reverse ++ st) w Q := by
  intro p e R s m args below meth c H locs cells slots ls mc ms F hC hE hc hs hl hw hS
  obtain ⟨m2, m3, m5, m6, m7, m8⟩ := hM
  obtain ⟨hx, hb, hml, hown, hts, hnm, hEX, hbs, hdf, hdl, hmc, hms⟩ := id hC
  have hst : (As.reverse ++ st).map (zv X) = (As.map (zv X)).reverse ++ st.map (zv X) := by
    rw [List.map_append, List.map_reverse]
  rw [hst]
  exact z_back (N := N) (va_runSN (As := As.map (zv X)) (rest := st.map (zv X)) (cc := zMc M) (nL := zMn M) (Ts := zG) (own := (zMy M).cls) (n := n) ⟨hx, hb, hml, hown, hts⟩ hv ⟨va_cnB n hts (zWs_good m6) rfl rfl rfl (hEX.2.2.1 _ m2) (hts _ m5) m7 ⟨by show d1 + 1 ≤ _; omega, by show 8 + (zMn N + 11) + 60 * d1 ≤ _; omega⟩, hts _ m3, trivial⟩
    ⟨zPc_blind X _ _, fun U hU hWm => ⟨rfl, hEX.step hS hU hWm hbs, by rw [hU]; exact hw⟩⟩ rfl (by rw [List.length_map]; exact hn) hl.1 rfl (lv_room (by rw [zCat]; exact hW)) hd ⟨by omega, by omega⟩) k hC hE hc hs hl hS
theorem z_callI {N : zM} {d1 c1 s1 n idx p0 : Nat} {As : List Value} {Q1 : Option Value → zW → Prop} (hM : zMI (zMy M).cls idx N n) (hd : decode (zMc M) pc = .ok (.invokespecial idx, 3)) (hn : As.length = n) (hW : (st.map fun v => v.category).sum ≤ 8) (hdd : d1 < d)
    (hv : zEv X d1 c1 s1 N (.ref p0 :: As) w Q1) (k : ∀ v w1, Q1 v w1 → zRn X d kc ks M (pc + 3) L (v.toList ++ st) w1 Q) : zRn X d (kc + c1) (ks + s1) M pc L (As.reverse ++ .ref p0 :: st) w Q := by
  intro p e R s m args below meth c H locs cells slots ls mc ms F hC hE hc hs hl hw hS
  obtain ⟨m2, my, mr, m3, m5, m6, m7, m8⟩ := hM
  obtain ⟨hx, hb, hml, hown, hts, hnm, hEX, hbs, hdf, hdl, hmc, hms⟩ := id hC
  have hst : (As.reverse ++ .ref p0 :: st).map (zv X) = (As.map (zv X)).reverse ++ .ref (za X p0) :: st.map (zv X) := by
    rw [List.map_append, List.map_cons, List.map_reverse]
    rfl
  rw [hst]
  rcases m2 with m2 | m2
  · exact z_back (N := N) (va_runI (As := As.map (zv X)) (b := za X p0) (rest := st.map (zv X)) (cc := zMc M) (nL := zMn M) (Ts := zG) (own := (zMy M).cls) (n := n) ⟨hx, hb, hml, hown, hts⟩ hv ⟨callB_of n hts (zWs_good m6) (ws' := zG) (congrArg (fun r => Cond.code (zMy N) (zMc N) (zMn N) r :: zG) mr) rfl rfl (hts _ m5) (hts _ m2) m7 ⟨by show d1 + 1 ≤ _; omega, by show 8 + (zMn N + 11) + 60 * d1 ≤ _; omega⟩, my, hts _ m3⟩
      ⟨zPc_blind X _ _, fun U hU hWm => ⟨rfl, hEX.step hS hU hWm hbs, by rw [hU]; exact hw⟩⟩ rfl (by rw [List.length_map]; exact hn) hl.1 rfl (lv_room (by rw [zCat]; exact hW)) hd ⟨by omega, by omega⟩) k hC hE hc hs hl hS
  · exact z_back (N := N) (va_runIN (As := As.map (zv X)) (b := za X p0) (rest := st.map (zv X)) (cc := zMc M) (nL := zMn M) (Ts := zG) (own := (zMy M).cls) (n := n) ⟨hx, hb, hml, hown, hts⟩ hv ⟨va_cnB n hts (zWs_good m6) (ws' := zG) (congrArg (fun r => Cond.code (zMy N) (zMc N) (zMn N) r :: zG) mr) rfl rfl (hEX.2.2.1 _ m2) (hts _ m5) m7 ⟨by show d1 + 1 ≤ _; omega, by show 8 + (zMn N + 11) + 60 * d1 ≤ _; omega⟩, my, hts _ m3⟩
      ⟨zPc_blind X _ _, fun U hU hWm => ⟨rfl, hEX.step hS hU hWm hbs, by rw [hU]; exact hw⟩⟩ rfl (by rw [List.length_map]; exact hn) hl.1 rfl (lv_room (by rw [zCat]; exact hW)) hd ⟨by omega, by omega⟩) k hC hE hc hs hl hS
end ZCALL
