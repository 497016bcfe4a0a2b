/-! ===== the texts, the script, the statics that are read ===== -/
def zTx (i : Nat) : Nat := zBig + 1 + i
def zTB (i : Nat) : Nat := zBig + 100 + i
abbrev zSc : Nat := zBig
theorem za_tx (X : zX) (i : Nat) : za X (zTx i) = zsa X (1 + i) := by
  unfold za zTx
  rw [if_neg (by omega), show zBig + 1 + i - zBig = 1 + i by omega]
theorem za_tb (X : zX) (i : Nat) : za X (zTB i) = zsa X (100 + i) := by
  unfold za zTB
  rw [if_neg (by omega), show zBig + 100 + i - zBig = 100 + i by omega]
theorem za_sc (X : zX) : za X zSc = zsa X 0 := by
  unfold za zSc
  rw [if_neg (by omega), show zBig - zBig = 0 by omega]
theorem za_99 (X : zX) : za X (zBig + 99) = zsa X 99 := by
  unfold za
  rw [if_neg (by omega), show zBig + 99 - zBig = 99 by omega]
section ZS
variable {X : zX} {d kc ks : Nat} {M : zM} {pc : Nat} {L : zL} {st : List Value} {w : zW} {Q : Option Value → zW → Prop}
theorem z_ldcS {q idx i : Nat} {tx : String} (hq : zsTx[q]? = some ((zMy M).cls, idx, tx, i)) (hd : decode (zMc M) pc = .ok (.ldc idx, 2)) (k : zRn X d kc ks M (pc + 2) L (.ref (zTx i) :: st) w Q) : zRn X d kc ks M pc L st w Q := by
  intro p e R s m args below meth c H locs cells slots ls mc ms F hC hE hc hs hl hw hS
  have hkk := k p e R s m args below meth c H locs cells slots ls mc ms F hC hE hc hs hl hw hS
  have hr := hC.2.2.2.2.2.2.1.2.2.2.2.1 _ (List.mem_of_getElem? hq)
  rw [← za_tx] at hr
  exact va_ldcS hC.1 hC.2.1 hC.2.2.2.1 hr hd hkk
theorem z_ldcwS {q idx i : Nat} {tx : String} (hq : zsTx[q]? = some ((zMy M).cls, idx, tx, i)) (hd : decode (zMc M) pc = .ok (.ldc_w idx, 3)) (k : zRn X d kc ks M (pc + 3) L (.ref (zTx i) :: st) w Q) : zRn X d kc ks M pc L st w Q := by
  intro p e R s m args below meth c H locs cells slots ls mc ms F hC hE hc hs hl hw hS
  have hkk := k p e R s m args below meth c H locs cells slots ls mc ms F hC hE hc hs hl hw hS
  have hr := hC.2.2.2.2.2.2.1.2.2.2.2.1 _ (List.mem_of_getElem? hq)
  rw [← za_tx] at hr
  have hown := hC.2.2.2.1
  have hexec := hC.1
  have hb := hC.2.1
  intro T hT XX
  obtain ⟨t, a1, b1⟩ := hkk T hT XX
  refine ⟨t, ?_, b1⟩
  have hc1 : (Cond.stringRef (zMy M).cls idx tx).before args s = true := by
    have h1 := hr.1
    exact h1
  have hev : (Term.string (zMy M).cls idx).eval args s none [] s = some (.ref (za X (zTx i))) := by
    have h2 := hr.2
    rw [← h2]
    exact Term.string_eval_of_vm rfl
  obtain ⟨k, cf, i2, a', hk, hcf, hcp, -, hr2, hev'⟩ := Cond.stringRef_spec hown hc1
  have ea := hev.symm.trans hev'
  have ea2 : za X (zTx i) = a' := by simpa using ea
  obtain ⟨k', hk', he⟩ := XX.warmed.alike.2.2 _ _ hk
  have hr' : k'.resolved[idx]? = some (some (.string a')) := by
    rcases XX.warmed.entry hk hk' idx with h | ⟨h, -⟩
    · rw [h]; exact hr2
    · rw [hr2] at h; cases h
  rw [← ea2] at hr'
  show Steps _ _ _ (T.setTop (F0 m pc ls (st.map (zv X)))) t
  jvm_step XX.here [hexec, hb, hd, ldc_w.wp_string (e := e) (s := T) (f := F0 m pc ls (st.map (zv X))) XX.here.top hk' (by rw [he]; exact hcf) hcp hr']
  exact a1
theorem z_sld {i : Int32} (hd : decode (zMc M) pc = .ok (.iaload, 1)) (hin : vp_in i (zsL X)) (k : zRn X d kc ks M (pc + 1) L (.int (zsx X i.toNatClampNeg) :: st) w Q) : zRn X d kc ks M pc L (.int i :: .ref zSc :: st) w Q := by
  intro p e R s m args below meth c H locs cells slots ls mc ms F hC hE hc hs hl hw hS
  have hkk := k p e R s m args below meth c H locs cells slots ls mc ms F hC hE hc hs hl hw hS
  obtain ⟨-, -, -, -, -, -, -, hX, hlt, -⟩ := hC.2.2.2.2.2.2.1
  have hbs := hC.2.2.2.2.2.2.2.1
  show W _ _ _ _ _ _ _ _ _ _ _ _ _ _ _ (F0 m pc ls (.int i :: .ref (za X zSc) :: st.map (zv X)))
  rw [za_sc]
  exact va_sld hC.1 hC.2.1 hX (by omega) (fun q => by unfold zA at q; omega) hS hin hd hkk
theorem z_slen (hd : decode (zMc M) pc = .ok (.arraylength, 1)) (k : zRn X d kc ks M (pc + 1) L (.int (nI (zsL X)) :: st) w Q) : zRn X d kc ks M pc L (.ref zSc :: st) w Q := by
  intro p e R s m args below meth c H locs cells slots ls mc ms F hC hE hc hs hl hw hS
  have hkk := k p e R s m args below meth c H locs cells slots ls mc ms F hC hE hc hs hl hw hS
  obtain ⟨-, -, -, -, -, -, -, hX, hlt, -⟩ := hC.2.2.2.2.2.2.1
  have hbs := hC.2.2.2.2.2.2.2.1
  show W _ _ _ _ _ _ _ _ _ _ _ _ _ _ _ (F0 m pc ls (.ref (za X zSc) :: st.map (zv X)))
  rw [za_sc]
  exact va_slen hC.1 hC.2.1 hX (by omega) (fun q => by unfold zA at q; omega) hS hd hkk
theorem z_gsCS {idx : Nat} (g : Cond.fieldLink (zMy M).cls idx "java/lang/String" "COMPACT_STRINGS" "Z" ∈ zG) (hd : decode (zMc M) pc = .ok (.getstatic idx, 3)) (k : zRn X d kc ks M (pc + 3) L (.int 1 :: st) w Q) : zRn X d kc ks M pc L st w Q := by
  intro p e R s m args below meth c H locs cells slots ls mc ms F hC hE hc hs hl hw hS
  have hkk := k p e R s m args below meth c H locs cells slots ls mc ms F hC hE hc hs hl hw hS
  obtain ⟨-, -, -, -, -, hZ, -⟩ := hC.2.2.2.2.2.2.1
  exact va_gets hC.1 hC.2.1 hZ hS hC.2.2.2.1 (hC.2.2.2.2.1 _ g) (fun _ h9 => h9) hd hkk
theorem z_gsSF {idx : Nat} (g : Cond.fieldLink (zMy M).cls idx "jdk/internal/util/Preconditions" "SIOOBE_FORMATTER" "Ljava/util/function/BiFunction;" ∈ zG) (hd : decode (zMc M) pc = .ok (.getstatic idx, 3)) (k1 : zRn X d kc ks M (pc + 3) L (.null :: st) w Q) (k2 : zRn X d kc ks M (pc + 3) L (.ref (zBig + 99) :: st) w Q) : zRn X d kc ks M pc L st w Q := by
  intro p e R s m args below meth c H locs cells slots ls mc ms F hC hE hc hs hl hw hS
  have hkk1 := k1 p e R s m args below meth c H locs cells slots ls mc ms F hC hE hc hs hl hw hS
  have hkk2 := k2 p e R s m args below meth c H locs cells slots ls mc ms F hC hE hc hs hl hw hS
  obtain ⟨-, -, -, -, -, -, hZ, -⟩ := hC.2.2.2.2.2.2.1
  rcases hZ with hZ | hZ
  · exact va_gets hC.1 hC.2.1 hZ hS hC.2.2.2.1 (hC.2.2.2.2.1 _ g) (fun _ h9 => h9) hd hkk1
  · rw [← za_99] at hZ
    exact va_gets hC.1 hC.2.1 hZ hS hC.2.2.2.1 (hC.2.2.2.2.1 _ g) (fun _ h9 => h9) hd hkk2
theorem z_txC {idx i : Nat} (hi : i < 8) (g : Cond.fieldLink (zMy M).cls idx "java/lang/String" "coder" "B" ∈ zG) (hd : decode (zMc M) pc = .ok (.getfield idx, 3)) (k : zRn X d kc ks M (pc + 3) L (.int 0 :: st) w Q) : zRn X d kc ks M pc L (.ref (zTx i) :: st) w Q := by
  intro p e R s m args below meth c H locs cells slots ls mc ms F hC hE hc hs hl hw hS
  have hkk := k p e R s m args below meth c H locs cells slots ls mc ms F hC hE hc hs hl hw hS
  obtain ⟨-, -, -, hV, -⟩ := hC.2.2.2.2.2.2.1
  show W _ _ _ _ _ _ _ _ _ _ _ _ _ _ _ (F0 m pc ls (.ref (za X (zTx i)) :: st.map (zv X)))
  rw [za_tx]
  exact vk_getf hC.1 hC.2.1 (hV.1 i hi).2.1 hS hC.2.2.2.1 (hC.2.2.2.2.1 _ g) (fun _ h9 => h9) hd hkk
theorem z_txV {idx i : Nat} (hi : i < 8) (g : Cond.fieldLink (zMy M).cls idx "java/lang/String" "value" "[B" ∈ zG) (hd : decode (zMc M) pc = .ok (.getfield idx, 3)) (k : zRn X d kc ks M (pc + 3) L (.ref (zTB i) :: st) w Q) : zRn X d kc ks M pc L (.ref (zTx i) :: st) w Q := by
  intro p e R s m args below meth c H locs cells slots ls mc ms F hC hE hc hs hl hw hS
  have hkk := k p e R s m args below meth c H locs cells slots ls mc ms F hC hE hc hs hl hw hS
  obtain ⟨-, -, -, hV, -⟩ := hC.2.2.2.2.2.2.1
  have hkk2 : W p (zl X) e R s m args below meth c H locs cells slots F (F0 m (pc + 3) ls (.ref (zsa X (100 + i)) :: st.map (zv X))) := by rw [← za_tb]; exact hkk
  show W _ _ _ _ _ _ _ _ _ _ _ _ _ _ _ (F0 m pc ls (.ref (za X (zTx i)) :: st.map (zv X)))
  rw [za_tx]
  exact vk_getf hC.1 hC.2.1 (hV.1 i hi).2.2.1 hS hC.2.2.2.1 (hC.2.2.2.2.1 _ g) (fun _ h9 => h9) hd hkk2
theorem z_tbL {i : Nat} (hi : i < 8) (hd : decode (zMc M) pc = .ok (.arraylength, 1)) (k : zRn X d kc ks M (pc + 1) L (.int (nI (zsLen.getD i 0)) :: st) w Q) : zRn X d kc ks M pc L (.ref (zTB i) :: st) w Q := by
  intro p e R s m args below meth c H locs cells slots ls mc ms F hC hE hc hs hl hw hS
  have hkk := k p e R s m args below meth c H locs cells slots ls mc ms F hC hE hc hs hl hw hS
  obtain ⟨-, -, -, hV, -⟩ := hC.2.2.2.2.2.2.1
  obtain ⟨cell, h1, h2, h3, h4, h5, h6, h7⟩ := (hV.1 i hi).2.2.2.kept hS.2.1
  show W _ _ _ _ _ _ _ _ _ _ _ _ _ _ _ (F0 m pc ls (.ref (za X (zTB i)) :: st.map (zv X)))
  rw [za_tb]
  exact W.alen hC.1 hC.2.1 h1 h2 h5 rfl rfl hd hkk
theorem z_tbC {i : Nat} {j : Int32} (hi : i < 8) (hd : decode (zMc M) pc = .ok (.baload, 1)) (hin : vp_in j (zsLen.getD i 0)) (k : zRn X d kc ks M (pc + 1) L (.int ((zsByt.getD i []).getD j.toNatClampNeg 0) :: st) w Q) : zRn X d kc ks M pc L (.int j :: .ref (zTB i) :: st) w Q := by
  intro p e R s m args below meth c H locs cells slots ls mc ms F hC hE hc hs hl hw hS
  have hkk := k p e R s m args below meth c H locs cells slots ls mc ms F hC hE hc hs hl hw hS
  obtain ⟨-, -, -, hV, -⟩ := hC.2.2.2.2.2.2.1
  obtain ⟨cell, h1, h2, h3, h4, h5, h6, h7⟩ := (hV.1 i hi).2.2.2.kept hS.2.1
  have hlt : j.toNatClampNeg < zsLen.getD i 0 := Nat.not_le.mp fun q => hin (Or.inr q)
  show W _ _ _ _ _ _ _ _ _ _ _ _ _ _ _ (F0 m pc ls (.int j :: .ref (za X (zTB i)) :: st.map (zv X)))
  rw [za_tb]
  exact W.bald hC.1 hC.2.1 h1 h2 h3 (fun q => hin (q.imp id (fun q => by omega))) (h6 _ hlt) rfl rfl hd hkk
def zMT (own : String) (idx : Nat) (M : zM) (n : Nat) : Prop := (zMy M).cls = "java/lang/String" ∧ Cond.methodLink own idx (zMy M) ∈ zG ∧ Cond.instanceMethod (zMy M) ∈ zG ∧ Cond.selects (zMy M).cls (zMy M) (zMy M) ∈ zG ∧ Cond.initialized (zMy M).cls ∈ zG ∧ Cond.code (zMy M) (zMc M) (zMn M) (zMr M) ∈ zG ∧
  ((zMy M).cls ≠ "java/lang/invoke/MethodHandle" ∧ (zMy M).cls ≠ "java/lang/invoke/VarHandle" ∧ (parseMethodDescriptor (zMy M).desc).map (fun d => d.parameters.length) = some n) ∧ zMn M ≤ 41
theorem z_callT {N : zM} {d1 n idx i : Nat} {As : List Value} {Q1 : Option Value → zW → Prop} (hi : i < 8) (hM : zMT (zMy M).cls idx N n) (hd : decode (zMc M) pc = .ok (.invokevirtual idx, 3)) (hn : As.length = n) (hW : (st.map fun v => v.category).sum ≤ 8) (hdd : d1 < d)
    (hv : zEv X d1 0 0 N (.ref (zTx i) :: As) w Q1) (k : ∀ v w1, Q1 v w1 → zRn X d kc ks M (pc + 3) L (v.toList ++ st) w1 Q) : zRn X d kc ks M pc L (As.reverse ++ .ref (zTx i) :: st) w Q := by
  intro p e R s m args below meth c H locs cells slots ls mc ms F hC hE hc hs hl hw hS
  obtain ⟨m1, m2, m3, m4, m5, m6, m7, m8⟩ := hM
  obtain ⟨hx, hb, hml, hown, hts, hnm, hEX, hbs, hdf, hdl, hmc, hms⟩ := id hC
  have hst : (As.reverse ++ .ref (zTx i) :: st).map (zv X) = (As.map (zv X)).reverse ++ .ref (za X (zTx i)) :: st.map (zv X) := by
    rw [List.map_append, List.map_cons, List.map_reverse]
    rfl
  rw [hst]
  refine z_back (N := N) (va_runV (As := As.map (zv X)) (b := za X (zTx i)) (rest := st.map (zv X)) (cc := zMc M) (nL := zMn M) (Ts := zG) (own := (zMy M).cls) (C := (zMy N).cls) (n := n) ⟨hx, hb, hml, hown, hts⟩ hv ⟨callB_of n hts (zWs_good m6) rfl rfl rfl (hts _ m5) (hts _ m2) m7 ⟨by show d1 + 1 ≤ _; omega, by show 8 + (zMn N + 11) + 60 * d1 ≤ _; omega⟩, hts _ m3, hts _ m4⟩
    ⟨zPc_blind X _ _, ?_, fun U hU hWm => ⟨rfl, hEX.step hS hU hWm hbs, by rw [hU]; exact hw⟩⟩ rfl (by rw [List.length_map]; exact hn) hl.1 rfl (lv_room (by rw [zCat]; exact hW)) hd ⟨by omega, by omega⟩) k hC hE hc hs hl hS
  rw [za_tx, m1]
  exact vk_recv (i := i) hEX.2.2.2.1 hi hS
end ZS
