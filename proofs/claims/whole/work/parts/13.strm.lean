theorem g_397 : Cond.instanceMethod yJ0_length_8abf5 ∈ zG := zt_2 (i := 57) rfl rfl
theorem g_398 : Cond.selects "java/lang/String" yJ0_length_8abf5 yJ0_length_8abf5 ∈ zG := zt_2 (i := 58) rfl rfl
theorem g_399 : Cond.code yJ0_length_8abf5 cJ0_length_8abf5 1 (some .int) ∈ zG := zt_2 (i := 59) rfl rfl
theorem g_401 : Cond.instanceMethod yJ0_coder_7d493 ∈ zG := zt_2 (i := 61) rfl rfl
theorem g_402 : Cond.selects "java/lang/String" yJ0_coder_7d493 yJ0_coder_7d493 ∈ zG := zt_2 (i := 62) rfl rfl
theorem g_403 : Cond.code yJ0_coder_7d493 cJ0_coder_7d493 1 (some .byte) ∈ zG := zt_2 (i := 63) rfl rfl
theorem g_407 : Cond.instanceMethod yJ0_charAt_5068e ∈ zG := zt_2 (i := 67) rfl rfl
theorem g_408 : Cond.selects "java/lang/String" yJ0_charAt_5068e yJ0_charAt_5068e ∈ zG := zt_2 (i := 68) rfl rfl
theorem g_409 : Cond.code yJ0_charAt_5068e cJ0_charAt_5068e 2 (some .char) ∈ zG := zt_2 (i := 69) rfl rfl
theorem g_411 : Cond.instanceMethod yJ0_isLatin1_aae02 ∈ zG := zt_2 (i := 71) rfl rfl
theorem g_412 : Cond.selects "java/lang/String" yJ0_isLatin1_aae02 yJ0_isLatin1_aae02 ∈ zG := zt_2 (i := 72) rfl rfl
theorem g_413 : Cond.code yJ0_isLatin1_aae02 cJ0_isLatin1_aae02 1 (some .boolean) ∈ zG := zt_2 (i := 73) rfl rfl
theorem mt_X7_128 : zMT "OrderGauge$Reader" 128 MJ0_length_8abf5 0 := ⟨rfl, g_396, g_397, g_398, g_114, g_399, ⟨by decide, by decide, by decide⟩, by decide⟩
theorem mt_J0_335 : zMT "java/lang/String" 335 MJ0_coder_7d493 0 := ⟨rfl, g_400, g_401, g_402, g_114, g_403, ⟨by decide, by decide, by decide⟩, by decide⟩
theorem mt_X7_133 : zMT "OrderGauge$Reader" 133 MJ0_charAt_5068e 1 := ⟨rfl, g_406, g_407, g_408, g_114, g_409, ⟨by decide, by decide, by decide⟩, by decide⟩
theorem mt_J0_492 : zMT "java/lang/String" 492 MJ0_isLatin1_aae02 0 := ⟨rfl, g_410, g_411, g_412, g_114, g_413, ⟨by decide, by decide, by decide⟩, by decide⟩
theorem mt_X0_29 : zMT "OrderGauge$Bytes" 29 MJ0_length_8abf5 0 := ⟨rfl, g_1185, g_397, g_398, g_114, g_399, ⟨by decide, by decide, by decide⟩, by decide⟩
theorem mt_X0_35 : zMT "OrderGauge$Bytes" 35 MJ0_charAt_5068e 1 := ⟨rfl, g_1186, g_407, g_408, g_114, g_409, ⟨by decide, by decide, by decide⟩, by decide⟩
theorem mt_X12_153 : zMT "OrderGaugeModel" 153 MJ0_length_8abf5 0 := ⟨rfl, g_1370, g_397, g_398, g_114, g_399, ⟨by decide, by decide, by decide⟩, by decide⟩
theorem mt_X12_159 : zMT "OrderGaugeModel" 159 MJ0_charAt_5068e 1 := ⟨rfl, g_1371, g_407, g_408, g_114, g_409, ⟨by decide, by decide, by decide⟩, by decide⟩
def zTL (p : Nat) : Option Int32 := if zBig + 1 ≤ p ∧ p < zBig + 9 then some (nI (zsLen.getD (p - zBig - 1) 0)) else none
def zTC (p : Nat) (k : Int32) : Option Int32 := if (zBig + 1 ≤ p ∧ p < zBig + 9) ∧ ¬ (k < 0 ∨ zsLen.getD (p - zBig - 1) 0 ≤ k.toNatClampNeg) then some ((zsByt.getD (p - zBig - 1) []).getD k.toNatClampNeg 0) else none
theorem zTx_of {p : Nat} (h : zBig + 1 ≤ p ∧ p < zBig + 9) : ∃ i, i < 8 ∧ p = zTx i := ⟨p - zBig - 1, by omega, by unfold zTx; omega⟩
theorem zTx_s (i : Nat) : zTx i - zBig - 1 = i := by unfold zTx; omega
theorem zTL_tx {i : Nat} (hi : i < 8) : zTL (zTx i) = some (nI (zsLen.getD i 0)) := by
  unfold zTL
  rw [if_pos ⟨by unfold zTx; omega, by unfold zTx; omega⟩, zTx_s]
theorem zTC_tx {i : Nat} {k : Int32} (hi : i < 8) (hk : vp_in k (zsLen.getD i 0)) : zTC (zTx i) k = some ((zsByt.getD i []).getD k.toNatClampNeg 0) := by
  unfold zTC
  rw [if_pos ⟨⟨by unfold zTx; omega, by unfold zTx; omega⟩, by rw [zTx_s]; exact hk⟩, zTx_s]
theorem zdec (x : Int32) : x + Int32.ofInt (-1) = x - 1 := by
  rw [Int32.sub_eq_add_neg]
  exact congrArg (x + ·) (by decide)
section ZSM
variable {X : zX} {d kc ks : Nat} {M : zM} {pc : Nat} {L : zL} {st : List Value} {w : zW} {Q : Option Value → zW → Prop}
theorem eT_coder {i : Nat} (hi : i < 8) : zEv X d 0 0 MJ0_coder_7d493 [.ref (zTx i)] w (fun v w1 => v = some (.int 0) ∧ w1 = w) := by
  refine zEv.of (by decide) (Nat.le_of_ble_eq_true rfl) (Or.inr (by simp [Value.category])) ?_
  refine z_gsCS g_404 dJ0_coder_7d493_0 ?_
  refine z_if_eq 13 dJ0_coder_7d493_3 rfl (fun hc => absurd hc (by decide)) (fun hc => ?_)
  refine z_aload_n (zTx i) dJ0_coder_7d493_6 rfl rfl ?_
  refine z_txC hi g_1771 dJ0_coder_7d493_7 ?_
  refine z_goto 14 dJ0_coder_7d493_10 rfl ?_
  exact z_ireturn .byte dJ0_coder_7d493_14 rfl rfl ⟨rfl, rfl⟩
theorem eT_latin {i : Nat} (hi : i < 8) : zEv X d 0 0 MJ0_isLatin1_aae02 [.ref (zTx i)] w (fun v w1 => v = some (.int 1) ∧ w1 = w) := by
  refine zEv.of (by decide) (Nat.le_of_ble_eq_true rfl) (Or.inr (by simp [Value.category])) ?_
  refine z_gsCS g_404 dJ0_isLatin1_aae02_0 ?_
  refine z_if_eq 17 dJ0_isLatin1_aae02_3 rfl (fun hc => absurd hc (by decide)) (fun hc => ?_)
  refine z_aload_n (zTx i) dJ0_isLatin1_aae02_6 rfl rfl ?_
  refine z_txC hi g_1771 dJ0_isLatin1_aae02_7 ?_
  refine z_if_ne 17 dJ0_isLatin1_aae02_10 rfl (fun hc => absurd rfl hc) (fun hc => ?_)
  refine z_iconst 1 dJ0_isLatin1_aae02_13 rfl ?_
  refine z_goto 18 dJ0_isLatin1_aae02_14 rfl ?_
  exact z_ireturn .boolean dJ0_isLatin1_aae02_18 rfl rfl ⟨rfl, rfl⟩
theorem sh0 {i : Nat} (hi : i < 8) : nI (zsLen.getD i 0) >>> ((0 : Int32) &&& 31) = nI (zsLen.getD i 0) := sb_shr0 _
theorem eT_length {i : Nat} (hi : i < 8) (hd : 0 < d) : zEv X d 0 0 MJ0_length_8abf5 [.ref (zTx i)] w (fun v w1 => v = some (.int (nI (zsLen.getD i 0))) ∧ w1 = w) := by
  refine zEv.of (by decide) (Nat.le_of_ble_eq_true rfl) (Or.inr (by simp [Value.category])) ?_
  refine z_aload_n (zTx i) dJ0_length_8abf5_0 rfl rfl ?_
  refine z_txV hi g_1770 dJ0_length_8abf5_1 ?_
  refine z_tbL hi dJ0_length_8abf5_4 ?_
  refine z_aload_n (zTx i) dJ0_length_8abf5_5 rfl rfl ?_
  refine z_callT (N := MJ0_coder_7d493) (As := []) (d1 := 0) hi mt_J0_335 dJ0_length_8abf5_6 rfl (Nat.le_of_ble_eq_true rfl) hd (eT_coder hi) (fun v w1 q => ?_)
  obtain ⟨rfl, rfl⟩ := q
  refine z_ishr dJ0_length_8abf5_9 ?_
  refine z_ireturn .int dJ0_length_8abf5_10 rfl rfl ⟨?_, rfl⟩
  rw [sb_shr0]
theorem eT_check3 {a b : Int32} {v : Value} (hv : v = .null ∨ ∃ p, v = .ref p) (h1 : ¬ a < 0) (h2 : a < b) : zEv X d 0 0 MJ3_checkIndex_8e157 [.int a, .int b, v] w (fun v w1 => v = some (.int a) ∧ w1 = w) := by
  have hc : v.category = 1 := by rcases hv with rfl | ⟨p, rfl⟩ <;> rfl
  have hn : (lg_sl ([.int a, .int b, v].map (zv X))).length ≤ zMn MJ3_checkIndex_8e157 := by rcases hv with rfl | ⟨p, rfl⟩ <;> exact Nat.le_of_ble_eq_true rfl
  refine zEv.of (by decide) hn (Or.inr (by intro u hu; simp at hu; rcases hu with rfl | rfl | rfl <;> first | rfl | exact hc)) ?_
  refine zRn.weak (L' := [some (.int a), some (.int b), none]) ?_ (by
    rcases hv with rfl | ⟨p, rfl⟩ <;> exact zLe_of [true, true, false] (And.intro rfl (And.intro rfl (And.intro rfl trivial))))
  refine z_iload_n a dJ3_checkIndex_8e157_0 rfl rfl ?_
  refine z_if_lt 9 dJ3_checkIndex_8e157_1 rfl (fun hc => absurd hc h1) (fun _ => ?_)
  refine z_iload_n a dJ3_checkIndex_8e157_4 rfl rfl ?_
  refine z_iload_n b dJ3_checkIndex_8e157_5 rfl rfl ?_
  refine z_icmp_lt 16 dJ3_checkIndex_8e157_6 rfl (fun _ => ?_) (fun hc => absurd h2 hc)
  refine z_iload_n a dJ3_checkIndex_8e157_16 rfl rfl ?_
  exact z_ireturn .int dJ3_checkIndex_8e157_17 rfl rfl ⟨rfl, rfl⟩
theorem eT_check {a b : Int32} (h1 : ¬ a < 0) (h2 : a < b) (hd : 0 < d) : zEv X d 0 0 MJ0_checkIndex_df160 [.int a, .int b] w (fun v w1 => v = none ∧ w1 = w) := by
  refine zEv.of (by decide) (Nat.le_of_ble_eq_true rfl) (Or.inr (by simp [Value.category])) ?_
  refine z_iload_n a dJ0_checkIndex_df160_0 rfl rfl ?_
  refine z_iload_n b dJ0_checkIndex_df160_1 rfl rfl ?_
  refine z_gsSF g_420 dJ0_checkIndex_df160_2 ?_ ?_
  · refine z_callS (N := MJ3_checkIndex_8e157) (As := [.int a, .int b, .null]) (d1 := 0) m_J0_1059 dJ0_checkIndex_df160_5 rfl (Nat.le_of_ble_eq_true rfl) hd (eT_check3 (Or.inl rfl) h1 h2) (fun v w1 q => ?_)
    obtain ⟨rfl, rfl⟩ := q
    refine z_pop dJ0_checkIndex_df160_8 rfl ?_
    exact z_vreturn dJ0_checkIndex_df160_9 rfl ⟨rfl, rfl⟩
  · refine z_callS (N := MJ3_checkIndex_8e157) (As := [.int a, .int b, .ref (zBig + 99)]) (d1 := 0) m_J0_1059 dJ0_checkIndex_df160_5 rfl (Nat.le_of_ble_eq_true rfl) hd (eT_check3 (Or.inr ⟨_, rfl⟩) h1 h2) (fun v w1 q => ?_)
    obtain ⟨rfl, rfl⟩ := q
    refine z_pop dJ0_checkIndex_df160_8 rfl ?_
    exact z_vreturn dJ0_checkIndex_df160_9 rfl ⟨rfl, rfl⟩
theorem chr_all : ∀ i, i < 8 → ∀ k, k < zsLen.getD i 0 → ((((zsByt.getD i []).getD k 0) &&& 255).toUInt32 % 65536).toInt32 = (zsByt.getD i []).getD k 0 ∧ narrow .char (.int ((zsByt.getD i []).getD k 0)) = .int ((zsByt.getD i []).getD k 0) := by decide +kernel
theorem eT_chr1 {i : Nat} {k : Int32} (hi : i < 8) (hk : vp_in k (zsLen.getD i 0)) (hd : 1 < d) : zEv X d 0 0 MJ1_charAt_3b067 [.ref (zTB i), .int k] w (fun v w1 => v = some (.int ((zsByt.getD i []).getD k.toNatClampNeg 0)) ∧ w1 = w) := by
  have hl : zsLen.getD i 0 < 2 ^ 31 := by
    have : ∀ i, i < 8 → zsLen.getD i 0 < 2 ^ 31 := by decide
    exact this i hi
  have h1 : ¬ k < 0 := fun q => hk (Or.inl q)
  obtain ⟨j, hj, rfl⟩ := vp_in_of hk hl
  have h2 : nI j < nI (zsLen.getD i 0) := nI_lt hj hl
  obtain ⟨c1, c2⟩ := chr_all i hi j hj
  refine zEv.of (by decide) (Nat.le_of_ble_eq_true rfl) (Or.inr (by simp [Value.category])) ?_
  refine z_iload_n (nI j) dJ1_charAt_3b067_0 rfl rfl ?_
  refine z_aload_n (zTB i) dJ1_charAt_3b067_1 rfl rfl ?_
  refine z_tbL hi dJ1_charAt_3b067_2 ?_
  refine z_callS (N := MJ0_checkIndex_df160) (As := [.int (nI j), .int (nI (zsLen.getD i 0))]) (d1 := 1) m_J1_9 dJ1_charAt_3b067_3 rfl (Nat.le_of_ble_eq_true rfl) hd (eT_check h1 h2 (by decide)) (fun v w1 q => ?_)
  obtain ⟨rfl, rfl⟩ := q
  refine z_aload_n (zTB i) dJ1_charAt_3b067_6 rfl rfl ?_
  refine z_iload_n (nI j) dJ1_charAt_3b067_7 rfl rfl ?_
  refine z_tbC hi dJ1_charAt_3b067_8 hk ?_
  refine z_sipush 255 dJ1_charAt_3b067_9 rfl ?_
  refine z_iand dJ1_charAt_3b067_12 ?_
  refine z_i2c dJ1_charAt_3b067_13 ?_
  have e : (nI j).toNatClampNeg = j := nI_clamp (by omega)
  rw [e]
  refine z_ireturn .char dJ1_charAt_3b067_14 rfl ?_ ⟨?_, rfl⟩
  · rw [c1]
    exact c2
  · rw [c1]
theorem eT_chr {i : Nat} {k : Int32} (hi : i < 8) (hk : vp_in k (zsLen.getD i 0)) (hd : 2 < d) : zEv X d 0 0 MJ0_charAt_5068e [.ref (zTx i), .int k] w (fun v w1 => v = some (.int ((zsByt.getD i []).getD k.toNatClampNeg 0)) ∧ w1 = w) := by
  have hl : zsLen.getD i 0 < 2 ^ 31 := by
    have : ∀ i, i < 8 → zsLen.getD i 0 < 2 ^ 31 := by decide
    exact this i hi
  have hlt : k.toNatClampNeg < zsLen.getD i 0 := Nat.not_le.mp fun q => hk (Or.inr q)
  have c2 := (chr_all i hi _ hlt).2
  refine zEv.of (by decide) (Nat.le_of_ble_eq_true rfl) (Or.inr (by simp [Value.category])) ?_
  refine z_aload_n (zTx i) dJ0_charAt_5068e_0 rfl rfl ?_
  refine z_callT (N := MJ0_isLatin1_aae02) (As := []) (d1 := 0) hi mt_J0_492 dJ0_charAt_5068e_1 rfl (Nat.le_of_ble_eq_true rfl) (by omega) (eT_latin hi) (fun v w1 q => ?_)
  obtain ⟨rfl, rfl⟩ := q
  refine z_if_eq 16 dJ0_charAt_5068e_4 rfl (fun hc => absurd hc (by decide)) (fun hc => ?_)
  refine z_aload_n (zTx i) dJ0_charAt_5068e_7 rfl rfl ?_
  refine z_txV hi g_1770 dJ0_charAt_5068e_8 ?_
  refine z_iload_n k dJ0_charAt_5068e_11 rfl rfl ?_
  refine z_callS (N := MJ1_charAt_3b067) (As := [.ref (zTB i), .int k]) (d1 := 2) m_J0_495 dJ0_charAt_5068e_12 rfl (Nat.le_of_ble_eq_true rfl) hd (eT_chr1 hi hk (by decide)) (fun v w1 q => ?_)
  obtain ⟨rfl, rfl⟩ := q
  exact z_ireturn .char dJ0_charAt_5068e_15 rfl c2 ⟨rfl, rfl⟩
theorem zq_len {idx p0 : Nat} {x : Int32} (hM : zMT (zMy M).cls idx MJ0_length_8abf5 0) (hd : decode (zMc M) pc = .ok (.invokevirtual idx, 3)) (hW : (st.map fun v => v.category).sum ≤ 8) (hdd : 5 < d) (h : zTL p0 = some x) (k : zRn X d kc ks M (pc + 3) L (.int x :: st) w Q) : zRn X d kc ks M pc L (.ref p0 :: st) w Q := by
  unfold zTL at h
  split at h
  · rename_i hp
    obtain ⟨i, hi, rfl⟩ := zTx_of hp
    rw [zTx_s] at h
    cases h
    refine z_callT (N := MJ0_length_8abf5) (As := []) (d1 := 1) hi hM hd rfl hW (by omega) (eT_length hi (by decide)) (fun v w1 q => ?_)
    obtain ⟨rfl, rfl⟩ := q
    exact k
  · cases h
theorem zq_chr {idx p0 : Nat} {i x : Int32} (hM : zMT (zMy M).cls idx MJ0_charAt_5068e 1) (hd : decode (zMc M) pc = .ok (.invokevirtual idx, 3)) (hW : (st.map fun v => v.category).sum ≤ 8) (hdd : 5 < d) (h : zTC p0 i = some x) (k : zRn X d kc ks M (pc + 3) L (.int x :: st) w Q) : zRn X d kc ks M pc L (.int i :: .ref p0 :: st) w Q := by
  unfold zTC at h
  split at h
  · rename_i hp
    obtain ⟨hp, hk⟩ := hp
    obtain ⟨q, hq, rfl⟩ := zTx_of hp
    rw [zTx_s] at h hk
    cases h
    refine z_callT (N := MJ0_charAt_5068e) (As := [.int i]) (d1 := 3) hq hM hd rfl hW (by omega) (eT_chr hq hk (by decide)) (fun v w1 q => ?_)
    obtain ⟨rfl, rfl⟩ := q
    exact k
  · cases h
theorem zsw_lk {x : Int32} (h0 : ¬ x = 0) (h1 : ¬ x = 1) : Op.lookupswitch.offset (#[(0, 27), (1, 35)] : Array (Int × Int)).toList 43 x.toInt = 43 := by
  have e0 : ¬ x.toInt = 0 := fun q => h0 (Int32.toInt_inj.mp (by rw [q]; rfl))
  have e1 : ¬ x.toInt = 1 := fun q => h1 (Int32.toInt_inj.mp (by rw [q]; rfl))
  simp only [Op.lookupswitch.offset]
  simp [e0, e1, Ne.symm e0, Ne.symm e1]
  try omega
end ZSM
