/-- entry idx of class own is field k of class number ci -/
def zFL (own : String) (idx ci k : Nat) (ty : FieldType) (fin : Bool) : Prop := ∃ (C : String) (T : u_T) (N : Nat) (ty0 : Nat → FieldType), vwCl[ci]? = some (C, T, N) ∧ k < N ∧ (∀ w ∈ u_ws C T N, w ∈ zG) ∧ Cond.fieldLink own idx (T k).1 (T k).2.1 (T k).2.2.1 ∈ zG ∧
  (∀ k, k < N → parseFieldDescriptor (T k).2.2.1 = some (ty0 k)) ∧ (∀ a, a < N → ∀ b, b < N → a ≠ b → (T a).2.1 ≠ (T b).2.1) ∧ (T k).2.2.2 = fin ∧ ty0 k = ty ∧ (fin = true → (T k).1 = own)
section ZH
variable {X : zX} {d kc ks : Nat} {M : zM} {pc : Nat} {L : zL} {st : List Value} {w : zW} {Q : Option Value → zW → Prop}
theorem zSim.put {X : zX} {w : zW} {H H1 : Heap} {i : Nat} {c c2 : zC} (h : zSim X w H) (hi : w[i]? = some c) (hz : H1.size = H.size) (ho : ∀ q : Nat, q ≠ zb X + i → H1[q]? = H[q]?) (h2 : va_at (zD X) vwCl (zb X + i, ze X c2) H1) : zSim X (w.set i c2) H1 := by
  refine ⟨by rw [hz, List.length_set]; exact h.1, by rw [List.length_set]; exact h.2.1, ?_⟩
  rw [← zw_set]
  exact h.2.2.set zSim.D (zw_at hi) h2 ho
theorem z_getf {idx ci k p0 : Nat} {ty : FieldType} {fin : Bool} {fs : List Value} {v : Value} (hf : zFL (zMy M).cls idx ci k ty fin) (hd : decode (zMc M) pc = .ok (.getfield idx, 3)) (hp : w[p0]? = some (zO ci fs)) (hv : fs[k]? = some v) (k : zRn X d kc ks M (pc + 3) L (v :: st) w Q) : zRn X d kc ks M pc L (.ref p0 :: st) w Q := by
  intro p e R s m args below meth c H locs cells slots ls mc ms F hC hE hc hs hl hw hS
  obtain ⟨C, T, N, ty0, f1, f2, f3, f4, -⟩ := hf
  have he := zw_at (X := X) hp
  have hkk := k p e R s m args below meth c H locs cells slots ls mc ms F hC hE hc hs hl hw hS
  show W _ _ _ _ _ _ _ _ _ _ _ _ _ _ _ (F0 m pc ls (.ref (za X p0) :: st.map (zv X)))
  rw [hw.adr hp]
  exact va_get hC.1 hC.2.1 hC.2.2.2.2.1 f3 hC.2.2.2.1 hC.2.2.2.2.2.2.1.1 hw.2.2 p0 he f1 _ f2 (hC.2.2.2.2.1 _ f4) (fun _ h9 => h9) (v := zv X v) (by rw [List.getElem?_map, hv]; rfl) hd hkk
theorem z_putf {idx ci k p0 : Nat} {ty : FieldType} {fs : List Value} {v : Value} (hf : zFL (zMy M).cls idx ci k ty false) (hd : decode (zMc M) pc = .ok (.putfield idx, 3)) (hp : w[p0]? = some (zO ci fs)) (hk0 : k < fs.length) (hn : narrow ty (zv X v) = zv X v) (hfit : fits ty (zv X v) = true) (kk : zRn X d kc ks M (pc + 3) L st (w.set p0 (zO ci (fs.set k v))) Q) : zRn X d kc ks M pc L (v :: .ref p0 :: st) w Q := by
  intro p e R s m args below meth c H locs cells slots ls mc ms F hC hE hc hs hl hw hS0
  obtain ⟨C, T, N, ty0, f1, hk, hin, f4, hty, hnm, hfin, f8, -⟩ := hf
  have he := zw_at (X := X) hp
  have hts := hC.2.2.2.2.1
  have hK := hC.2.2.2.2.2.2.1.1
  have hd0 : parseFieldDescriptor (T k).2.2.1 = some ty := by rw [hty _ hk, f8]
  show W _ _ _ _ _ _ _ _ _ _ _ _ _ _ _ (F0 m pc ls (zv X v :: .ref (za X p0) :: st.map (zv X)))
  rw [hw.adr hp]
  have hap := va_apart (own := (zMy M).cls) hts hin ty0 hty hnm hK f1
  obtain ⟨r, h1, cell, q1, q2, q3, q4⟩ := hw.2.2 p0 _ he
  have hr : r = (C, T, N) := Option.some.inj (h1.symm.trans f1)
  subst hr
  obtain ⟨hS, hfc, kC, hkC, hkind⟩ := hK.1 ci _ f1
  obtain ⟨cf, kf, fi, f, hi, hsl⟩ := hS k hk
  have hlay := hts _ (hin _ (u_in_lay hk))
  unfold u_lay at hlay
  rw [if_neg (by rw [hfin]; decide)] at hlay
  have hst := (u_facts hfc hkC (u_lays hts hin hk) hi).1
  have h6 := u_store hfc hkC hkind hlay hi hd0 hn hfit
  refine W.putK hC.1 hC.2.1 (f := f) ⟨hC.2.2.2.1, hts _ f4, ⟨_, _, _, hi⟩, hst⟩ (by rw [q2]; exact h6) q1 q3 (by rw [hsl]; exact k2_hasslot (q4 k hk)) rfl rfl hd fun H' e1 e2 e3 => ?_
  rw [hsl] at e1 ⊢
  refine kk p e R s m args below meth c H' _ cells slots ls mc ms F hC hE hc hs hl (hw.put hp e2 e3 ?_) (hS0.put e2 e3 (Nat.le_add_right _ _))
  refine ⟨_, f1, ?_⟩
  rw [List.map_set]
  exact t_OB.to (V := updV (vp_V (fs.map (zv X))) k (zv X v)) ⟨_, e1, q2, q3, t_set q4 hap hk _⟩ (fun j _ => vp_updV_set (by rw [List.length_map]; exact hk0) _ j)
theorem z_putfin {idx ci k p0 : Nat} {ty : FieldType} {fs : List Value} {v : Value} (hf : zFL (zMy M).cls idx ci k ty true) (hi0 : (zMy M).name = "<init>") (hd : decode (zMc M) pc = .ok (.putfield idx, 3)) (hp : w[p0]? = some (zO ci fs)) (hk0 : k < fs.length) (hn : narrow ty (zv X v) = zv X v) (hfit : fits ty (zv X v) = true) (kk : zRn X d kc ks M (pc + 3) L st (w.set p0 (zO ci (fs.set k v))) Q) : zRn X d kc ks M pc L (v :: .ref p0 :: st) w Q := by
  intro p e R s m args below meth c H locs cells slots ls mc ms F hC hE hc hs hl hw hS0
  obtain ⟨C, T, N, ty0, f1, hk, hin, f4, hty, hnm, hfin, f8, f9⟩ := hf
  have hdecl := f9 rfl
  have he := zw_at (X := X) hp
  have hts := hC.2.2.2.2.1
  have hown := hC.2.2.2.1
  have hK := hC.2.2.2.2.2.2.1.1
  have hd0 : parseFieldDescriptor (T k).2.2.1 = some ty := by rw [hty _ hk, f8]
  show W _ _ _ _ _ _ _ _ _ _ _ _ _ _ _ (F0 m pc ls (zv X v :: .ref (za X p0) :: st.map (zv X)))
  rw [hw.adr hp]
  have hap := va_apart (own := (zMy M).cls) hts hin ty0 hty hnm hK f1
  obtain ⟨r, h1, cell, q1, q2, q3, q4⟩ := hw.2.2 p0 _ he
  have hr : r = (C, T, N) := Option.some.inj (h1.symm.trans f1)
  subst hr
  obtain ⟨hS, hfc, kC, hkC, hkind⟩ := hK.1 ci _ f1
  obtain ⟨cf, kf, fi, f, hi, hsl⟩ := hS k hk
  have hlay := hts _ (hin _ (u_in_lay hk))
  unfold u_lay at hlay
  rw [if_pos hfin] at hlay
  have hst := (u_facts hfc hkC (u_lays hts hin hk) hi).1
  have hcf : m.cls = cf := by
    obtain ⟨_, _, c', _, _, _, -, -, hf', -, -, -, hown2, -⟩ := Cond.laysFinal_spec hlay
    have e1 : c' = cf := by have := hi.symm.trans hf'; simp at this; exact this.1.symm
    rw [hdecl] at hown2
    rw [← e1]; exact Option.some.inj (hown.symm.trans hown2)
  have h6 := u_fits hfc hkC hkind (Or.inr hlay) hi hd0 hn hfit
  refine W.putFinK hC.1 hC.2.1 hown (hts _ f4) hi hst hcf (hC.2.2.2.2.2.1.trans hi0) (by rw [q2]; exact h6) q1 q3 (by rw [hsl]; exact k2_hasslot (q4 k hk)) rfl rfl hd fun H' e1 e2 e3 => ?_
  rw [hsl] at e1 ⊢
  refine kk p e R s m args below meth c H' _ cells slots ls mc ms F hC hE hc hs hl (hw.put hp e2 e3 ?_) (hS0.put e2 e3 (Nat.le_add_right _ _))
  refine ⟨_, f1, ?_⟩
  rw [List.map_set]
  exact t_OB.to (V := updV (vp_V (fs.map (zv X))) k (zv X v)) ⟨_, e1, q2, q3, t_set q4 hap hk _⟩ (fun j _ => vp_updV_set (by rw [List.length_map]; exact hk0) _ j)
theorem z_iald {a n : Nat} {f : Nat → Int32} {i : Int32} (hd : decode (zMc M) pc = .ok (.iaload, 1)) (ha : w[a]? = some (zI n f)) (hin : vp_in i n) (k : zRn X d kc ks M (pc + 1) L (.int (f i.toNatClampNeg) :: st) w Q) : zRn X d kc ks M pc L (.int i :: .ref a :: st) w Q := by
  intro p e R s m args below meth c H locs cells slots ls mc ms F hC hE hc hs hl hw hS
  have hkk := k p e R s m args below meth c H locs cells slots ls mc ms F hC hE hc hs hl hw hS
  show W _ _ _ _ _ _ _ _ _ _ _ _ _ _ _ (F0 m pc ls (.int i :: .ref (za X a) :: st.map (zv X)))
  rw [hw.adr ha]
  exact va_iald hC.1 hC.2.1 hC.2.2.2.2.2.2.1.1 hw.2.2 a 0 (zw_at ha) rfl hin hd hkk
theorem z_iast {a n : Nat} {f : Nat → Int32} {i x : Int32} (hd : decode (zMc M) pc = .ok (.iastore, 1)) (ha : w[a]? = some (zI n f)) (hin : vp_in i n) (k : zRn X d kc ks M (pc + 1) L st (w.set a (zI n (upd f i.toNatClampNeg x))) Q) : zRn X d kc ks M pc L (.int x :: .int i :: .ref a :: st) w Q := by
  intro p e R s m args below meth c H locs cells slots ls mc ms F hC hE hc hs hl hw hS
  show W _ _ _ _ _ _ _ _ _ _ _ _ _ _ _ (F0 m pc ls (.int x :: .int i :: .ref (za X a) :: st.map (zv X)))
  rw [hw.adr ha]
  have hK := hC.2.2.2.2.2.2.1.1
  refine W.iast hC.1 hC.2.1 (hw.2.2 a _ (zw_at ha)) ((hK.2 0 _ rfl).1 n (fun j => .int (f j))) (fun q => by cases q) (by show ¬ (i < 0 ∨ (arrV _ _ _).slots.size ≤ _); rw [arrV_size]; exact hin) rfl rfl hd fun H1 e1 z oq => ?_
  refine k p e R s m args below meth c H1 _ cells slots ls mc ms F hC hE hc hs hl (hw.put ha z oq ?_) (hS.put z oq (Nat.le_add_right _ _))
  show H1[zb X + a]? = some (vp_cell _ _)
  rw [e1]
  show some (Cell.setSlot (vp_cell (zcI X) (n, .inl f)) _ _) = some (vp_cell (zcI X) (n, .inl (upd f i.toNatClampNeg x)))
  rw [vp_cell_i, vp_cell_i, arrV_store]
  congr 2
  funext q
  by_cases hq : q = i.toNatClampNeg
  · subst hq
    simp [updV, upd]
  · simp [updV, upd, hq]
theorem z_alen {a n : Nat} {f : Nat → Int32} (hd : decode (zMc M) pc = .ok (.arraylength, 1)) (ha : w[a]? = some (zI n f)) (k : zRn X d kc ks M (pc + 1) L (.int (nI n) :: st) w Q) : zRn X d kc ks M pc L (.ref a :: st) w Q := by
  intro p e R s m args below meth c H locs cells slots ls mc ms F hC hE hc hs hl hw hS
  have hkk := k p e R s m args below meth c H locs cells slots ls mc ms F hC hE hc hs hl hw hS
  show W _ _ _ _ _ _ _ _ _ _ _ _ _ _ _ (F0 m pc ls (.ref (za X a) :: st.map (zv X)))
  rw [hw.adr ha]
  exact va_alen hC.1 hC.2.1 hC.2.2.2.2.2.2.1.1 hw.2.2 a 0 (zw_at ha) rfl rfl hd hkk
theorem z_aald {a n q : Nat} {f : Nat → Option Nat} {i : Int32} (hd : decode (zMc M) pc = .ok (.aaload, 1)) (ha : w[a]? = some (zR n f)) (hin : vp_in i n) (hq : f i.toNatClampNeg = some q) (k : zRn X d kc ks M (pc + 1) L (.ref q :: st) w Q) : zRn X d kc ks M pc L (.int i :: .ref a :: st) w Q := by
  intro p e R s m args below meth c H locs cells slots ls mc ms F hC hE hc hs hl hw hS
  have hkk := k p e R s m args below meth c H locs cells slots ls mc ms F hC hE hc hs hl hw hS
  show W _ _ _ _ _ _ _ _ _ _ _ _ _ _ _ (F0 m pc ls (.int i :: .ref (za X a) :: st.map (zv X)))
  rw [hw.adr ha]
  refine va_aldq hC.1 hC.2.1 hC.2.2.2.2.2.2.1.1 hw.2.2 a 1 (zw_at ha) rfl hin hd ?_
  simp only [hq, Option.map_some]
  exact hkk
theorem z_aast {a n q ci : Nat} {f : Nat → Option Nat} {i : Int32} {fs : List Value} (hd : decode (zMc M) pc = .ok (.aastore, 1)) (ha : w[a]? = some (zR n f)) (hin : vp_in i n) (hq : w[q]? = some (zO 5 fs)) (k : zRn X d kc ks M (pc + 1) L st (w.set a (zR n (va_up f i.toNatClampNeg (some q)))) Q) : zRn X d kc ks M pc L (.ref q :: .int i :: .ref a :: st) w Q := by
  intro p e R s m args below meth c H locs cells slots ls mc ms F hC hE hc hs hl hw hS
  show W _ _ _ _ _ _ _ _ _ _ _ _ _ _ _ (F0 m pc ls (.ref (za X q) :: .int i :: .ref (za X a) :: st.map (zv X)))
  rw [hw.adr ha]
  have hK := hC.2.2.2.2.2.2.1.1
  have h0 : ¬ i < 0 := fun q => hin (Or.inl q)
  have hlt : i.toNatClampNeg < n := Nat.not_le.mp fun q => hin (Or.inr q)
  have hqa := hw.adr hq
  obtain ⟨r', hr', cellV, g1, g2, g3, -⟩ := hw.2.2 q _ (zw_at hq)
  have hcls := (hK.1 5 _ (show vwCl[5]? = some _ from rfl)).2
  obtain ⟨kA, comp, k1, k2, k3, -⟩ := (hK.2 1 _ rfl).2
  have hcomp : comp = (zD X).1 5 := Option.some.inj (k3.symm.trans hcls.1)
  subst hcomp
  have hcls2 := hcls
  obtain ⟨kC, hkC, -⟩ := hcls.2
  rw [hqa]
  refine W.aast hC.1 hC.2.1 (hw.2.2 a _ (zw_at ha)) (fun q h => by cases h) (fun h => by cases h) k1 k2 rfl hkC ⟨h0, by show _ < (arrV _ _ _).slots.size; rw [arrV_size]; exact hlt⟩ g1 (fun q h => by rw [g3] at h; cases h) (by rw [g2]; exact hkC) (by rw [g2]; exact va_assign hcls2) rfl rfl hd fun H1 e1 z oq => ?_
  refine k p e R s m args below meth c H1 _ cells slots ls mc ms F hC hE hc hs hl (hw.put ha z oq ?_) (hS.put z oq (Nat.le_add_right _ _))
  show H1[zb X + a]? = some (vp_cell _ _)
  rw [e1]
  show some (Cell.setSlot (vp_cell (zcO X) (n, .inr (.inr (.inr (.inr (fun k => (f k).map (za X))))))) _ _) = some (vp_cell (zcO X) (n, .inr (.inr (.inr (.inr (fun k => (va_up f i.toNatClampNeg (some q) k).map (za X)))))))
  rw [vp_cell_q, vp_cell_q, arrV_store]
  congr 2
  funext j
  by_cases hj : j = i.toNatClampNeg
  · subst hj
    simp [updV, va_up, va_rf, hqa]
  · simp [updV, va_up, hj]
end ZH
