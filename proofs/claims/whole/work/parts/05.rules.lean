section ZI
variable {X : zX} {d kc ks : Nat} {M : zM} {pc : Nat} {L : zL} {st : List Value} {w : zW} {Q : Option Value → zW → Prop}
theorem z_iconst {n : Int} (v : Int32) (hd : decode (zMc M) pc = .ok (.iconst n, 1)) (hv : Int32.ofInt n = v) (k : zRn X d kc ks M (pc + 1) L (.int v :: st) w Q) : zRn X d kc ks M pc L st w Q := by
  intro p e R s m args below meth c H locs cells slots ls mc ms F hC hE hc hs hl hw hS
  exact lv_iconst hC.1 hC.2.1 hd hv (k p e R s m args below meth c H locs cells slots ls mc ms F hC hE hc hs hl hw hS)
theorem z_bipush {n : Int} (v : Int32) (hd : decode (zMc M) pc = .ok (.bipush n, 2)) (hv : (Int8.ofInt n).toInt32 = v) (k : zRn X d kc ks M (pc + 2) L (.int v :: st) w Q) : zRn X d kc ks M pc L st w Q := by
  intro p e R s m args below meth c H locs cells slots ls mc ms F hC hE hc hs hl hw hS
  exact lv_bipush hC.1 hC.2.1 hd hv (k p e R s m args below meth c H locs cells slots ls mc ms F hC hE hc hs hl hw hS)
theorem z_sipush {n : Int} (v : Int32) (hd : decode (zMc M) pc = .ok (.sipush n, 3)) (hv : (Int16.ofInt n).toInt32 = v) (k : zRn X d kc ks M (pc + 3) L (.int v :: st) w Q) : zRn X d kc ks M pc L st w Q := by
  intro p e R s m args below meth c H locs cells slots ls mc ms F hC hE hc hs hl hw hS
  exact lv_sipush hC.1 hC.2.1 hd hv (k p e R s m args below meth c H locs cells slots ls mc ms F hC hE hc hs hl hw hS)
theorem z_lconst {n : Fin 2} (v : Int64) (hd : decode (zMc M) pc = .ok (.lconst n, 1)) (hv : Int64.ofNat (n : Nat) = v) (k : zRn X d kc ks M (pc + 1) L (.long v :: st) w Q) : zRn X d kc ks M pc L st w Q := by
  intro p e R s m args below meth c H locs cells slots ls mc ms F hC hE hc hs hl hw hS
  exact lv_lconst hC.1 hC.2.1 hd hv (k p e R s m args below meth c H locs cells slots ls mc ms F hC hE hc hs hl hw hS)
theorem z_null (hd : decode (zMc M) pc = .ok (.aconst_null, 1)) (k : zRn X d kc ks M (pc + 1) L (.null :: st) w Q) : zRn X d kc ks M pc L st w Q := by
  intro p e R s m args below meth c H locs cells slots ls mc ms F hC hE hc hs hl hw hS
  exact lv_null hC.1 hC.2.1 hd (k p e R s m args below meth c H locs cells slots ls mc ms F hC hE hc hs hl hw hS)
theorem z_ldc {i : Nat} (v : Int32) (hg : Cond.constant (zMy M).cls i v ∈ zG) (hd : decode (zMc M) pc = .ok (.ldc i, 2)) (k : zRn X d kc ks M (pc + 2) L (.int v :: st) w Q) : zRn X d kc ks M pc L st w Q := by
  intro p e R s m args below meth c H locs cells slots ls mc ms F hC hE hc hs hl hw hS
  exact lv_ldc hC.1 hC.2.1 hC.2.2.2.1 (hC.2.2.2.2.1 _ hg) hd (k p e R s m args below meth c H locs cells slots ls mc ms F hC hE hc hs hl hw hS)
theorem z_ldcw {i : Nat} (v : Int32) (hg : Cond.constant (zMy M).cls i v ∈ zG) (hd : decode (zMc M) pc = .ok (.ldc_w i, 3)) (k : zRn X d kc ks M (pc + 3) L (.int v :: st) w Q) : zRn X d kc ks M pc L st w Q := by
  intro p e R s m args below meth c H locs cells slots ls mc ms F hC hE hc hs hl hw hS
  exact lv_ldcw hC.1 hC.2.1 hC.2.2.2.1 (hC.2.2.2.2.1 _ hg) hd (k p e R s m args below meth c H locs cells slots ls mc ms F hC hE hc hs hl hw hS)
theorem z_ldc2 {i : Nat} (v : Int64) (hg : Cond.constantLong (zMy M).cls i v ∈ zG) (hd : decode (zMc M) pc = .ok (.ldc2_w i, 3)) (k : zRn X d kc ks M (pc + 3) L (.long v :: st) w Q) : zRn X d kc ks M pc L st w Q := by
  intro p e R s m args below meth c H locs cells slots ls mc ms F hC hE hc hs hl hw hS
  exact lv_ldc2 hC.1 hC.2.1 hC.2.2.2.1 (hC.2.2.2.2.1 _ hg) hd (k p e R s m args below meth c H locs cells slots ls mc ms F hC hE hc hs hl hw hS)
theorem z_iload_n {i : Nat} {n : Fin 4} (x : Int32) (hd : decode (zMc M) pc = .ok (.iload_n n, 1)) (hi : (n : Nat) = i) (hx : L[i]? = some (some (.int x))) (k : zRn X d kc ks M (pc + 1) L (.int x :: st) w Q) : zRn X d kc ks M pc L st w Q := by
  intro p e R s m args below meth c H locs cells slots ls mc ms F hC hE hc hs hl hw hS
  exact lv_iload_n hC.1 hC.2.1 hd hi (zLv_at hl hx) (k p e R s m args below meth c H locs cells slots ls mc ms F hC hE hc hs hl hw hS)
theorem z_iload {i : Nat} (x : Int32) (hd : decode (zMc M) pc = .ok (.iload i, 2)) (hx : L[i]? = some (some (.int x))) (k : zRn X d kc ks M (pc + 2) L (.int x :: st) w Q) : zRn X d kc ks M pc L st w Q := by
  intro p e R s m args below meth c H locs cells slots ls mc ms F hC hE hc hs hl hw hS
  exact lv_iload hC.1 hC.2.1 hd (zLv_at hl hx) (k p e R s m args below meth c H locs cells slots ls mc ms F hC hE hc hs hl hw hS)
theorem z_lload_n {i : Nat} {n : Fin 4} (x : Int64) (hd : decode (zMc M) pc = .ok (.lload_n n, 1)) (hi : (n : Nat) = i) (hx : L[i]? = some (some (.long x))) (k : zRn X d kc ks M (pc + 1) L (.long x :: st) w Q) : zRn X d kc ks M pc L st w Q := by
  intro p e R s m args below meth c H locs cells slots ls mc ms F hC hE hc hs hl hw hS
  exact lv_lload_n hC.1 hC.2.1 hd hi (zLv_at hl hx) (k p e R s m args below meth c H locs cells slots ls mc ms F hC hE hc hs hl hw hS)
theorem z_lload {i : Nat} (x : Int64) (hd : decode (zMc M) pc = .ok (.lload i, 2)) (hx : L[i]? = some (some (.long x))) (k : zRn X d kc ks M (pc + 2) L (.long x :: st) w Q) : zRn X d kc ks M pc L st w Q := by
  intro p e R s m args below meth c H locs cells slots ls mc ms F hC hE hc hs hl hw hS
  exact lv_lload hC.1 hC.2.1 hd (zLv_at hl hx) (k p e R s m args below meth c H locs cells slots ls mc ms F hC hE hc hs hl hw hS)
theorem z_aload_n {i : Nat} {n : Fin 4} (x : Nat) (hd : decode (zMc M) pc = .ok (.aload_n n, 1)) (hi : (n : Nat) = i) (hx : L[i]? = some (some (.ref x))) (k : zRn X d kc ks M (pc + 1) L (.ref x :: st) w Q) : zRn X d kc ks M pc L st w Q := by
  intro p e R s m args below meth c H locs cells slots ls mc ms F hC hE hc hs hl hw hS
  exact lv_aload_n hC.1 hC.2.1 hd hi (zLv_at hl hx) (k p e R s m args below meth c H locs cells slots ls mc ms F hC hE hc hs hl hw hS)
theorem z_aload {i : Nat} (x : Nat) (hd : decode (zMc M) pc = .ok (.aload i, 2)) (hx : L[i]? = some (some (.ref x))) (k : zRn X d kc ks M (pc + 2) L (.ref x :: st) w Q) : zRn X d kc ks M pc L st w Q := by
  intro p e R s m args below meth c H locs cells slots ls mc ms F hC hE hc hs hl hw hS
  exact lv_aload hC.1 hC.2.1 hd (zLv_at hl hx) (k p e R s m args below meth c H locs cells slots ls mc ms F hC hE hc hs hl hw hS)
theorem z_nload_n {i : Nat} {n : Fin 4} (hd : decode (zMc M) pc = .ok (.aload_n n, 1)) (hi : (n : Nat) = i) (hx : L[i]? = some (some .null)) (k : zRn X d kc ks M (pc + 1) L (.null :: st) w Q) : zRn X d kc ks M pc L st w Q := by
  intro p e R s m args below meth c H locs cells slots ls mc ms F hC hE hc hs hl hw hS
  have hv := zLv_at hl hx
  intro T hT XX
  obtain ⟨t, a, b⟩ := k p e R s m args below meth c H locs cells slots ls mc ms F hC hE hc hs hl hw hS T hT XX
  refine ⟨t, ?_, b⟩
  have hxx := hC.1
  have hb := hC.2.1
  subst hi
  have hv2 : ls[(n : Nat)]? = some (.val .null) := hv
  show Steps _ _ _ (T.setTop (F0 m pc ls (st.map (zv X)))) t
  jvm_step XX.here [XX.here.top, hxx, hb, hd, hv2, Value.isRef]
  exact a
theorem z_nload {i : Nat} (hd : decode (zMc M) pc = .ok (.aload i, 2)) (hx : L[i]? = some (some .null)) (k : zRn X d kc ks M (pc + 2) L (.null :: st) w Q) : zRn X d kc ks M pc L st w Q := by
  intro p e R s m args below meth c H locs cells slots ls mc ms F hC hE hc hs hl hw hS
  have hv := zLv_at hl hx
  intro T hT XX
  obtain ⟨t, a, b⟩ := k p e R s m args below meth c H locs cells slots ls mc ms F hC hE hc hs hl hw hS T hT XX
  refine ⟨t, ?_, b⟩
  have hxx := hC.1
  have hb := hC.2.1
  skip
  have hv2 : ls[(i : Nat)]? = some (.val .null) := hv
  show Steps _ _ _ (T.setTop (F0 m pc ls (st.map (zv X)))) t
  jvm_step XX.here [XX.here.top, hxx, hb, hd, hv2, Value.isRef]
  exact a
theorem z_istore_n {i : Nat} {n : Fin 4} {x : Int32} (hd : decode (zMc M) pc = .ok (.istore_n n, 1)) (hi : (n : Nat) = i) (hn : i < zMn M) (hm : zMl M = false) (k : zRn X d kc ks M (pc + 1) (L.set i (some (.int x))) st w Q) : zRn X d kc ks M pc L (.int x :: st) w Q := by
  intro p e R s m args below meth c H locs cells slots ls mc ms F hC hE hc hs hl hw hS
  exact lv_istore_n hC.1 hC.2.1 hd hi (zLv_has hl) hn rfl (fun ls2 h2 => k p e R s m args below meth c H locs cells slots ls2 mc ms F hC hE hc hs (zLv_store hl hm rfl h2) hw hS)
theorem z_istore {i : Nat} {x : Int32} (hd : decode (zMc M) pc = .ok (.istore i, 2)) (hn : i < zMn M) (hm : zMl M = false) (k : zRn X d kc ks M (pc + 2) (L.set i (some (.int x))) st w Q) : zRn X d kc ks M pc L (.int x :: st) w Q := by
  intro p e R s m args below meth c H locs cells slots ls mc ms F hC hE hc hs hl hw hS
  exact lv_istore hC.1 hC.2.1 hd (zLv_has hl) hn rfl (fun ls2 h2 => k p e R s m args below meth c H locs cells slots ls2 mc ms F hC hE hc hs (zLv_store hl hm rfl h2) hw hS)
theorem z_astore_n {i : Nat} {n : Fin 4} {x : Nat} (hd : decode (zMc M) pc = .ok (.astore_n n, 1)) (hi : (n : Nat) = i) (hn : i < zMn M) (hm : zMl M = false) (k : zRn X d kc ks M (pc + 1) (L.set i (some (.ref x))) st w Q) : zRn X d kc ks M pc L (.ref x :: st) w Q := by
  intro p e R s m args below meth c H locs cells slots ls mc ms F hC hE hc hs hl hw hS
  exact lv_astore_n hC.1 hC.2.1 hd hi (zLv_has hl) hn rfl (fun ls2 h2 => k p e R s m args below meth c H locs cells slots ls2 mc ms F hC hE hc hs (zLv_store hl hm rfl h2) hw hS)
theorem z_astore {i : Nat} {x : Nat} (hd : decode (zMc M) pc = .ok (.astore i, 2)) (hn : i < zMn M) (hm : zMl M = false) (k : zRn X d kc ks M (pc + 2) (L.set i (some (.ref x))) st w Q) : zRn X d kc ks M pc L (.ref x :: st) w Q := by
  intro p e R s m args below meth c H locs cells slots ls mc ms F hC hE hc hs hl hw hS
  exact lv_astore hC.1 hC.2.1 hd (zLv_has hl) hn rfl (fun ls2 h2 => k p e R s m args below meth c H locs cells slots ls2 mc ms F hC hE hc hs (zLv_store hl hm rfl h2) hw hS)
theorem z_nstore_n {i : Nat} {n : Fin 4} (hd : decode (zMc M) pc = .ok (.astore_n n, 1)) (hi : (n : Nat) = i) (hn : i < zMn M) (hm : zMl M = false) (k : zRn X d kc ks M (pc + 1) (L.set i (some .null)) st w Q) : zRn X d kc ks M pc L (.null :: st) w Q := by
  intro p e R s m args below meth c H locs cells slots ls mc ms F hC hE hc hs hl hw hS
  obtain ⟨ls2, e2, h2⟩ := lv_store1 (v := .null) (zLv_has hl) hn rfl
  intro T hT XX
  obtain ⟨t, a, b⟩ := k p e R s m args below meth c H locs cells slots ls2 mc ms F hC hE hc hs (zLv_store hl hm rfl h2) hw hS T hT XX
  refine ⟨t, ?_, b⟩
  have hx := hC.1
  have hb := hC.2.1
  subst hi
  show Steps _ _ _ (T.setTop (F0 m pc ls (.null :: st.map (zv X)))) t
  jvm_step XX.here [XX.here.top, ↓top_set XX.here.top, hx, hb, hd, e2, Value.isRef]
  exact a
theorem z_nstore {i : Nat} (hd : decode (zMc M) pc = .ok (.astore i, 2)) (hn : i < zMn M) (hm : zMl M = false) (k : zRn X d kc ks M (pc + 2) (L.set i (some .null)) st w Q) : zRn X d kc ks M pc L (.null :: st) w Q := by
  intro p e R s m args below meth c H locs cells slots ls mc ms F hC hE hc hs hl hw hS
  obtain ⟨ls2, e2, h2⟩ := lv_store1 (v := .null) (zLv_has hl) hn rfl
  intro T hT XX
  obtain ⟨t, a, b⟩ := k p e R s m args below meth c H locs cells slots ls2 mc ms F hC hE hc hs (zLv_store hl hm rfl h2) hw hS T hT XX
  refine ⟨t, ?_, b⟩
  have hx := hC.1
  have hb := hC.2.1
  skip
  show Steps _ _ _ (T.setTop (F0 m pc ls (.null :: st.map (zv X)))) t
  jvm_step XX.here [XX.here.top, ↓top_set XX.here.top, hx, hb, hd, e2, Value.isRef]
  exact a
theorem z_iinc {i : Nat} {n : Int} (x v : Int32) (hd : decode (zMc M) pc = .ok (.iinc i n, 3)) (hx : L[i]? = some (some (.int x))) (hv : x + Int32.ofInt n = v) (hn : i < zMn M) (hm : zMl M = false) (k : zRn X d kc ks M (pc + 3) (L.set i (some (.int v))) st w Q) : zRn X d kc ks M pc L st w Q := by
  intro p e R s m args below meth c H locs cells slots ls mc ms F hC hE hc hs hl hw hS
  obtain ⟨j, hj⟩ := List.getElem?_of_mem (zPr_mem.mpr ⟨.int x, hx, rfl⟩ : (i, zv X (.int x)) ∈ zPr X L)
  exact lv_iinc hC.1 hC.2.1 hd (zLv_has hl) (k := j) hj hv hn rfl (fun ls2 h2 => k p e R s m args below meth c H locs cells slots ls2 mc ms F hC hE hc hs (zLv_store hl hm rfl h2) hw hS)
theorem z_dup {v : Value} (hd : decode (zMc M) pc = .ok (.dup, 1)) (hv : v.category = 1) (k : zRn X d kc ks M (pc + 1) L (v :: v :: st) w Q) : zRn X d kc ks M pc L (v :: st) w Q := by
  intro p e R s m args below meth c H locs cells slots ls mc ms F hC hE hc hs hl hw hS
  exact lv_dup hC.1 hC.2.1 hd ((zv_cat X v).trans hv) (k p e R s m args below meth c H locs cells slots ls mc ms F hC hE hc hs hl hw hS)
theorem z_pop {v : Value} (hd : decode (zMc M) pc = .ok (.pop, 1)) (hv : v.category = 1) (k : zRn X d kc ks M (pc + 1) L st w Q) : zRn X d kc ks M pc L (v :: st) w Q := by
  intro p e R s m args below meth c H locs cells slots ls mc ms F hC hE hc hs hl hw hS
  exact lv_pop hC.1 hC.2.1 hd ((zv_cat X v).trans hv) (k p e R s m args below meth c H locs cells slots ls mc ms F hC hE hc hs hl hw hS)
theorem z_dup2 {v u : Value} (hd : decode (zMc M) pc = .ok (.dup2, 1)) (hv : v.category = 1) (hu : u.category = 1) (k : zRn X d kc ks M (pc + 1) L (v :: u :: v :: u :: st) w Q) : zRn X d kc ks M pc L (v :: u :: st) w Q := by
  intro p e R s m args below meth c H locs cells slots ls mc ms F hC hE hc hs hl hw hS
  exact lv_dup2_11 hC.1 hC.2.1 hd ((zv_cat X v).trans hv) ((zv_cat X u).trans hu) (k p e R s m args below meth c H locs cells slots ls mc ms F hC hE hc hs hl hw hS)
theorem z_iadd {x y : Int32} (hd : decode (zMc M) pc = .ok (.iadd, 1)) (k : zRn X d kc ks M (pc + 1) L (.int (x + y) :: st) w Q) : zRn X d kc ks M pc L (.int y :: .int x :: st) w Q := by
  intro p e R s m args below meth c H locs cells slots ls mc ms F hC hE hc hs hl hw hS
  exact lv_iadd hC.1 hC.2.1 hd (k p e R s m args below meth c H locs cells slots ls mc ms F hC hE hc hs hl hw hS)
theorem z_isub {x y : Int32} (hd : decode (zMc M) pc = .ok (.isub, 1)) (k : zRn X d kc ks M (pc + 1) L (.int (x - y) :: st) w Q) : zRn X d kc ks M pc L (.int y :: .int x :: st) w Q := by
  intro p e R s m args below meth c H locs cells slots ls mc ms F hC hE hc hs hl hw hS
  exact lv_isub hC.1 hC.2.1 hd (k p e R s m args below meth c H locs cells slots ls mc ms F hC hE hc hs hl hw hS)
theorem z_imul {x y : Int32} (hd : decode (zMc M) pc = .ok (.imul, 1)) (k : zRn X d kc ks M (pc + 1) L (.int (x * y) :: st) w Q) : zRn X d kc ks M pc L (.int y :: .int x :: st) w Q := by
  intro p e R s m args below meth c H locs cells slots ls mc ms F hC hE hc hs hl hw hS
  exact lv_imul hC.1 hC.2.1 hd (k p e R s m args below meth c H locs cells slots ls mc ms F hC hE hc hs hl hw hS)
theorem z_iand {x y : Int32} (hd : decode (zMc M) pc = .ok (.iand, 1)) (k : zRn X d kc ks M (pc + 1) L (.int (x &&& y) :: st) w Q) : zRn X d kc ks M pc L (.int y :: .int x :: st) w Q := by
  intro p e R s m args below meth c H locs cells slots ls mc ms F hC hE hc hs hl hw hS
  exact lv_iand hC.1 hC.2.1 hd (k p e R s m args below meth c H locs cells slots ls mc ms F hC hE hc hs hl hw hS)
theorem z_ior {x y : Int32} (hd : decode (zMc M) pc = .ok (.ior, 1)) (k : zRn X d kc ks M (pc + 1) L (.int (x ||| y) :: st) w Q) : zRn X d kc ks M pc L (.int y :: .int x :: st) w Q := by
  intro p e R s m args below meth c H locs cells slots ls mc ms F hC hE hc hs hl hw hS
  exact lv_ior hC.1 hC.2.1 hd (k p e R s m args below meth c H locs cells slots ls mc ms F hC hE hc hs hl hw hS)
theorem z_ixor {x y : Int32} (hd : decode (zMc M) pc = .ok (.ixor, 1)) (k : zRn X d kc ks M (pc + 1) L (.int (x ^^^ y) :: st) w Q) : zRn X d kc ks M pc L (.int y :: .int x :: st) w Q := by
  intro p e R s m args below meth c H locs cells slots ls mc ms F hC hE hc hs hl hw hS
  exact lv_ixor hC.1 hC.2.1 hd (k p e R s m args below meth c H locs cells slots ls mc ms F hC hE hc hs hl hw hS)
theorem z_ishl {x y : Int32} (hd : decode (zMc M) pc = .ok (.ishl, 1)) (k : zRn X d kc ks M (pc + 1) L (.int (x <<< (y &&& 31)) :: st) w Q) : zRn X d kc ks M pc L (.int y :: .int x :: st) w Q := by
  intro p e R s m args below meth c H locs cells slots ls mc ms F hC hE hc hs hl hw hS
  exact lv_ishl hC.1 hC.2.1 hd (k p e R s m args below meth c H locs cells slots ls mc ms F hC hE hc hs hl hw hS)
theorem z_ishr {x y : Int32} (hd : decode (zMc M) pc = .ok (.ishr, 1)) (k : zRn X d kc ks M (pc + 1) L (.int (x >>> (y &&& 31)) :: st) w Q) : zRn X d kc ks M pc L (.int y :: .int x :: st) w Q := by
  intro p e R s m args below meth c H locs cells slots ls mc ms F hC hE hc hs hl hw hS
  exact lv_ishr hC.1 hC.2.1 hd (k p e R s m args below meth c H locs cells slots ls mc ms F hC hE hc hs hl hw hS)
theorem z_idiv {x y : Int32} (hd : decode (zMc M) pc = .ok (.idiv, 1)) (hne : ¬ y = 0) (k : zRn X d kc ks M (pc + 1) L (.int (x / y) :: st) w Q) : zRn X d kc ks M pc L (.int y :: .int x :: st) w Q := by
  intro p e R s m args below meth c H locs cells slots ls mc ms F hC hE hc hs hl hw hS
  exact lv_idiv hC.1 hC.2.1 hd hne (k p e R s m args below meth c H locs cells slots ls mc ms F hC hE hc hs hl hw hS)
theorem z_irem {x y : Int32} (hd : decode (zMc M) pc = .ok (.irem, 1)) (hne : ¬ y = 0) (k : zRn X d kc ks M (pc + 1) L (.int (x - x / y * y) :: st) w Q) : zRn X d kc ks M pc L (.int y :: .int x :: st) w Q := by
  intro p e R s m args below meth c H locs cells slots ls mc ms F hC hE hc hs hl hw hS
  exact lv_irem hC.1 hC.2.1 hd hne (k p e R s m args below meth c H locs cells slots ls mc ms F hC hE hc hs hl hw hS)
theorem z_iushr {x y : Int32} (hd : decode (zMc M) pc = .ok (.iushr, 1)) (k : zRn X d kc ks M (pc + 1) L (.int (x.toUInt32 >>> (y.toUInt32 &&& Int32.toUInt32 31)).toInt32 :: st) w Q) : zRn X d kc ks M pc L (.int y :: .int x :: st) w Q := by
  intro p e R s m args below meth c H locs cells slots ls mc ms F hC hE hc hs hl hw hS
  exact lv_iushr hC.1 hC.2.1 hd rfl (k p e R s m args below meth c H locs cells slots ls mc ms F hC hE hc hs hl hw hS)
theorem z_i2l {x : Int32} (hd : decode (zMc M) pc = .ok (.i2l, 1)) (k : zRn X d kc ks M (pc + 1) L (.long x.toInt64 :: st) w Q) : zRn X d kc ks M pc L (.int x :: st) w Q := by
  intro p e R s m args below meth c H locs cells slots ls mc ms F hC hE hc hs hl hw hS
  exact lv_i2l hC.1 hC.2.1 hd rfl (k p e R s m args below meth c H locs cells slots ls mc ms F hC hE hc hs hl hw hS)
theorem z_i2c {x : Int32} (hd : decode (zMc M) pc = .ok (.i2c, 1)) (k : zRn X d kc ks M (pc + 1) L (.int (x.toUInt32 % 65536).toInt32 :: st) w Q) : zRn X d kc ks M pc L (.int x :: st) w Q := by
  intro p e R s m args below meth c H locs cells slots ls mc ms F hC hE hc hs hl hw hS
  exact lv_i2c hC.1 hC.2.1 hd rfl (k p e R s m args below meth c H locs cells slots ls mc ms F hC hE hc hs hl hw hS)
theorem z_lcmp {x y : Int64} (hd : decode (zMc M) pc = .ok (.lcmp, 1)) (k : zRn X d kc ks M (pc + 1) L (.int (lg_cmp x y) :: st) w Q) : zRn X d kc ks M pc L (.long y :: .long x :: st) w Q := by
  intro p e R s m args below meth c H locs cells slots ls mc ms F hC hE hc hs hl hw hS
  exact W.lcmp hC.1 hC.2.1 hd (k p e R s m args below meth c H locs cells slots ls mc ms F hC hE hc hs hl hw hS)
theorem z_if_eq {x : Int32} {off : Int} (tgt : Nat) (hd : decode (zMc M) pc = .ok (.ifCond .eq off, 3)) (ht : (pc : Int) + off = (tgt : Int)) (kt : x = 0 → zRn X d kc ks M tgt L st w Q) (kf : ¬ (x = 0) → zRn X d kc ks M (pc + 3) L st w Q) : zRn X d kc ks M pc L (.int x :: st) w Q := by
  intro p e R s m args below meth c H locs cells slots ls mc ms F hC hE hc hs hl hw hS
  exact lv_if_eq hC.1 hC.2.1 hd ht (fun q => kt q p e R s m args below meth c H locs cells slots ls mc ms F hC hE hc hs hl hw hS) (fun q => kf q p e R s m args below meth c H locs cells slots ls mc ms F hC hE hc hs hl hw hS)
theorem z_icmp_eq {x y : Int32} {off : Int} (tgt : Nat) (hd : decode (zMc M) pc = .ok (.if_icmp .eq off, 3)) (ht : (pc : Int) + off = (tgt : Int)) (kt : x = y → zRn X d kc ks M tgt L st w Q) (kf : ¬ (x = y) → zRn X d kc ks M (pc + 3) L st w Q) : zRn X d kc ks M pc L (.int y :: .int x :: st) w Q := by
  intro p e R s m args below meth c H locs cells slots ls mc ms F hC hE hc hs hl hw hS
  exact lv_icmp_eq hC.1 hC.2.1 hd ht (fun q => kt q p e R s m args below meth c H locs cells slots ls mc ms F hC hE hc hs hl hw hS) (fun q => kf q p e R s m args below meth c H locs cells slots ls mc ms F hC hE hc hs hl hw hS)
theorem z_if_ne {x : Int32} {off : Int} (tgt : Nat) (hd : decode (zMc M) pc = .ok (.ifCond .ne off, 3)) (ht : (pc : Int) + off = (tgt : Int)) (kt : ¬ x = 0 → zRn X d kc ks M tgt L st w Q) (kf : x = 0 → zRn X d kc ks M (pc + 3) L st w Q) : zRn X d kc ks M pc L (.int x :: st) w Q := by
  intro p e R s m args below meth c H locs cells slots ls mc ms F hC hE hc hs hl hw hS
  exact lv_if_ne hC.1 hC.2.1 hd ht (fun q => kt q p e R s m args below meth c H locs cells slots ls mc ms F hC hE hc hs hl hw hS) (fun q => kf q p e R s m args below meth c H locs cells slots ls mc ms F hC hE hc hs hl hw hS)
theorem z_icmp_ne {x y : Int32} {off : Int} (tgt : Nat) (hd : decode (zMc M) pc = .ok (.if_icmp .ne off, 3)) (ht : (pc : Int) + off = (tgt : Int)) (kt : ¬ x = y → zRn X d kc ks M tgt L st w Q) (kf : x = y → zRn X d kc ks M (pc + 3) L st w Q) : zRn X d kc ks M pc L (.int y :: .int x :: st) w Q := by
  intro p e R s m args below meth c H locs cells slots ls mc ms F hC hE hc hs hl hw hS
  exact lv_icmp_ne hC.1 hC.2.1 hd ht (fun q => kt q p e R s m args below meth c H locs cells slots ls mc ms F hC hE hc hs hl hw hS) (fun q => kf q p e R s m args below meth c H locs cells slots ls mc ms F hC hE hc hs hl hw hS)
theorem z_if_lt {x : Int32} {off : Int} (tgt : Nat) (hd : decode (zMc M) pc = .ok (.ifCond .lt off, 3)) (ht : (pc : Int) + off = (tgt : Int)) (kt : x < 0 → zRn X d kc ks M tgt L st w Q) (kf : ¬ (x < 0) → zRn X d kc ks M (pc + 3) L st w Q) : zRn X d kc ks M pc L (.int x :: st) w Q := by
  intro p e R s m args below meth c H locs cells slots ls mc ms F hC hE hc hs hl hw hS
  exact lv_if_lt hC.1 hC.2.1 hd ht (fun q => kt q p e R s m args below meth c H locs cells slots ls mc ms F hC hE hc hs hl hw hS) (fun q => kf q p e R s m args below meth c H locs cells slots ls mc ms F hC hE hc hs hl hw hS)
theorem z_icmp_lt {x y : Int32} {off : Int} (tgt : Nat) (hd : decode (zMc M) pc = .ok (.if_icmp .lt off, 3)) (ht : (pc : Int) + off = (tgt : Int)) (kt : x < y → zRn X d kc ks M tgt L st w Q) (kf : ¬ (x < y) → zRn X d kc ks M (pc + 3) L st w Q) : zRn X d kc ks M pc L (.int y :: .int x :: st) w Q := by
  intro p e R s m args below meth c H locs cells slots ls mc ms F hC hE hc hs hl hw hS
  exact lv_icmp_lt hC.1 hC.2.1 hd ht (fun q => kt q p e R s m args below meth c H locs cells slots ls mc ms F hC hE hc hs hl hw hS) (fun q => kf q p e R s m args below meth c H locs cells slots ls mc ms F hC hE hc hs hl hw hS)
theorem z_if_ge {x : Int32} {off : Int} (tgt : Nat) (hd : decode (zMc M) pc = .ok (.ifCond .ge off, 3)) (ht : (pc : Int) + off = (tgt : Int)) (kt : 0 ≤ x → zRn X d kc ks M tgt L st w Q) (kf : ¬ (0 ≤ x) → zRn X d kc ks M (pc + 3) L st w Q) : zRn X d kc ks M pc L (.int x :: st) w Q := by
  intro p e R s m args below meth c H locs cells slots ls mc ms F hC hE hc hs hl hw hS
  exact lv_if_ge hC.1 hC.2.1 hd ht (fun q => kt q p e R s m args below meth c H locs cells slots ls mc ms F hC hE hc hs hl hw hS) (fun q => kf q p e R s m args below meth c H locs cells slots ls mc ms F hC hE hc hs hl hw hS)
theorem z_icmp_ge {x y : Int32} {off : Int} (tgt : Nat) (hd : decode (zMc M) pc = .ok (.if_icmp .ge off, 3)) (ht : (pc : Int) + off = (tgt : Int)) (kt : y ≤ x → zRn X d kc ks M tgt L st w Q) (kf : ¬ (y ≤ x) → zRn X d kc ks M (pc + 3) L st w Q) : zRn X d kc ks M pc L (.int y :: .int x :: st) w Q := by
  intro p e R s m args below meth c H locs cells slots ls mc ms F hC hE hc hs hl hw hS
  exact lv_icmp_ge hC.1 hC.2.1 hd ht (fun q => kt q p e R s m args below meth c H locs cells slots ls mc ms F hC hE hc hs hl hw hS) (fun q => kf q p e R s m args below meth c H locs cells slots ls mc ms F hC hE hc hs hl hw hS)
theorem z_if_gt {x : Int32} {off : Int} (tgt : Nat) (hd : decode (zMc M) pc = .ok (.ifCond .gt off, 3)) (ht : (pc : Int) + off = (tgt : Int)) (kt : 0 < x → zRn X d kc ks M tgt L st w Q) (kf : ¬ (0 < x) → zRn X d kc ks M (pc + 3) L st w Q) : zRn X d kc ks M pc L (.int x :: st) w Q := by
  intro p e R s m args below meth c H locs cells slots ls mc ms F hC hE hc hs hl hw hS
  exact lv_if_gt hC.1 hC.2.1 hd ht (fun q => kt q p e R s m args below meth c H locs cells slots ls mc ms F hC hE hc hs hl hw hS) (fun q => kf q p e R s m args below meth c H locs cells slots ls mc ms F hC hE hc hs hl hw hS)
theorem z_icmp_gt {x y : Int32} {off : Int} (tgt : Nat) (hd : decode (zMc M) pc = .ok (.if_icmp .gt off, 3)) (ht : (pc : Int) + off = (tgt : Int)) (kt : y < x → zRn X d kc ks M tgt L st w Q) (kf : ¬ (y < x) → zRn X d kc ks M (pc + 3) L st w Q) : zRn X d kc ks M pc L (.int y :: .int x :: st) w Q := by
  intro p e R s m args below meth c H locs cells slots ls mc ms F hC hE hc hs hl hw hS
  exact lv_icmp_gt hC.1 hC.2.1 hd ht (fun q => kt q p e R s m args below meth c H locs cells slots ls mc ms F hC hE hc hs hl hw hS) (fun q => kf q p e R s m args below meth c H locs cells slots ls mc ms F hC hE hc hs hl hw hS)
theorem z_if_le {x : Int32} {off : Int} (tgt : Nat) (hd : decode (zMc M) pc = .ok (.ifCond .le off, 3)) (ht : (pc : Int) + off = (tgt : Int)) (kt : x ≤ 0 → zRn X d kc ks M tgt L st w Q) (kf : ¬ (x ≤ 0) → zRn X d kc ks M (pc + 3) L st w Q) : zRn X d kc ks M pc L (.int x :: st) w Q := by
  intro p e R s m args below meth c H locs cells slots ls mc ms F hC hE hc hs hl hw hS
  exact lv_if_le hC.1 hC.2.1 hd ht (fun q => kt q p e R s m args below meth c H locs cells slots ls mc ms F hC hE hc hs hl hw hS) (fun q => kf q p e R s m args below meth c H locs cells slots ls mc ms F hC hE hc hs hl hw hS)
theorem z_icmp_le {x y : Int32} {off : Int} (tgt : Nat) (hd : decode (zMc M) pc = .ok (.if_icmp .le off, 3)) (ht : (pc : Int) + off = (tgt : Int)) (kt : x ≤ y → zRn X d kc ks M tgt L st w Q) (kf : ¬ (x ≤ y) → zRn X d kc ks M (pc + 3) L st w Q) : zRn X d kc ks M pc L (.int y :: .int x :: st) w Q := by
  intro p e R s m args below meth c H locs cells slots ls mc ms F hC hE hc hs hl hw hS
  exact lv_icmp_le hC.1 hC.2.1 hd ht (fun q => kt q p e R s m args below meth c H locs cells slots ls mc ms F hC hE hc hs hl hw hS) (fun q => kf q p e R s m args below meth c H locs cells slots ls mc ms F hC hE hc hs hl hw hS)
theorem z_goto {off : Int} (tgt : Nat) (hd : decode (zMc M) pc = .ok (.goto off, 3)) (ht : (pc : Int) + off = (tgt : Int)) (k : zRn X d kc ks M tgt L st w Q) : zRn X d kc ks M pc L st w Q := by
  intro p e R s m args below meth c H locs cells slots ls mc ms F hC hE hc hs hl hw hS
  exact lv_goto hC.1 hC.2.1 hd ht (k p e R s m args below meth c H locs cells slots ls mc ms F hC hE hc hs hl hw hS)
theorem z_ifnull {x : Nat} {off : Int} (hd : decode (zMc M) pc = .ok (.ifnull off, 3)) (k : zRn X d kc ks M (pc + 3) L st w Q) : zRn X d kc ks M pc L (.ref x :: st) w Q := by
  intro p e R s m args below meth c H locs cells slots ls mc ms F hC hE hc hs hl hw hS
  exact lv_ifnull hC.1 hC.2.1 hd (k p e R s m args below meth c H locs cells slots ls mc ms F hC hE hc hs hl hw hS)
theorem z_ifnonnull {x : Nat} {off : Int} (tgt : Nat) (hd : decode (zMc M) pc = .ok (.ifnonnull off, 3)) (ht : (pc : Int) + off = (tgt : Int)) (k : zRn X d kc ks M tgt L st w Q) : zRn X d kc ks M pc L (.ref x :: st) w Q := by
  intro p e R s m args below meth c H locs cells slots ls mc ms F hC hE hc hs hl hw hS
  exact lv_ifnonnull hC.1 hC.2.1 hd ht (k p e R s m args below meth c H locs cells slots ls mc ms F hC hE hc hs hl hw hS)
theorem z_ifnullN {off : Int} (tgt : Nat) (hd : decode (zMc M) pc = .ok (.ifnull off, 3)) (ht : (pc : Int) + off = (tgt : Int)) (k : zRn X d kc ks M tgt L st w Q) : zRn X d kc ks M pc L (.null :: st) w Q := by
  intro p e R s m args below meth c H locs cells slots ls mc ms F hC hE hc hs hl hw hS
  exact lv_ifnullN hC.1 hC.2.1 hd ht (k p e R s m args below meth c H locs cells slots ls mc ms F hC hE hc hs hl hw hS)
theorem z_ifnonnullN {off : Int} (hd : decode (zMc M) pc = .ok (.ifnonnull off, 3)) (k : zRn X d kc ks M (pc + 3) L st w Q) : zRn X d kc ks M pc L (.null :: st) w Q := by
  intro p e R s m args below meth c H locs cells slots ls mc ms F hC hE hc hs hl hw hS
  exact lv_ifnonnullN hC.1 hC.2.1 hd (k p e R s m args below meth c H locs cells slots ls mc ms F hC hE hc hs hl hw hS)
theorem z_tableIn {dflt lo hi : Int} {offs : Array Int} {len : Nat} {x : Int32} {off : Int} (tgt : Nat) (hd : decode (zMc M) pc = .ok (.tableswitch dflt lo hi offs, len)) (h1 : ¬ x.toInt < lo) (h2 : ¬ hi < x.toInt) (ho : offs[(x.toInt - lo).toNat]? = some off) (ht : (pc : Int) + off = (tgt : Int)) (k : zRn X d kc ks M tgt L st w Q) : zRn X d kc ks M pc L (.int x :: st) w Q := by
  intro p e R s m args below meth c H locs cells slots ls mc ms F hC hE hc hs hl hw hS
  exact lv_tableIn hC.1 hC.2.1 hd h1 h2 ho ht (k p e R s m args below meth c H locs cells slots ls mc ms F hC hE hc hs hl hw hS)
theorem z_tableOut {dflt lo hi : Int} {offs : Array Int} {len : Nat} {x : Int32} (tgt : Nat) (hd : decode (zMc M) pc = .ok (.tableswitch dflt lo hi offs, len)) (h : x.toInt < lo ∨ hi < x.toInt) (ht : (pc : Int) + dflt = (tgt : Int)) (k : zRn X d kc ks M tgt L st w Q) : zRn X d kc ks M pc L (.int x :: st) w Q := by
  intro p e R s m args below meth c H locs cells slots ls mc ms F hC hE hc hs hl hw hS
  exact lv_tableOut hC.1 hC.2.1 hd h ht (k p e R s m args below meth c H locs cells slots ls mc ms F hC hE hc hs hl hw hS)
theorem z_lookup {dflt : Int} {ps : Array (Int × Int)} {len : Nat} {x : Int32} {off : Int} (tgt : Nat) (hd : decode (zMc M) pc = .ok (.lookupswitch dflt ps, len)) (hp : (ps.toList.zip (ps.toList.drop 1)).all (fun (a, next) => a.1 < next.1) = true) (ho : Op.lookupswitch.offset ps.toList dflt x.toInt = off) (ht : (pc : Int) + off = (tgt : Int)) (k : zRn X d kc ks M tgt L st w Q) : zRn X d kc ks M pc L (.int x :: st) w Q := by
  intro p e R s m args below meth c H locs cells slots ls mc ms F hC hE hc hs hl hw hS
  exact lv_lookup hC.1 hC.2.1 hd hp ho ht (k p e R s m args below meth c H locs cells slots ls mc ms F hC hE hc hs hl hw hS)
theorem z_ret {v : Option Value} (hr : zRt M pc v) (hst : v.toList = st) (hq : Q v w) : zRn X d kc ks M pc L st w Q := by
  intro p e R s m args below meth c H locs cells slots ls mc ms F hC hE hc hs hl hw hS
  subst hst
  exact hE pc ls v w H locs cells slots hr hq hw hS (by omega) (by omega)
end ZI
