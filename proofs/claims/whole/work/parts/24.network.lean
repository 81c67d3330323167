abbrev rm_X1_addArc : Room := { frames := 0, cells := 0, slots := 0, locals := 0 }
def X1_addArc (y1 : Int32) (y2 : Int32) (S : ZS) (Q : Int32 → ZS → Prop) : Prop :=
  ∀ x3_4 : Int32, x3_4 = (S.1 3 0) → vp_in x3_4 18 ∧ ∀ S_11 : ZS, S_11 = zu S 26 (x3_4).toNatClampNeg y1 → vp_in x3_4 18 ∧ ∀ S_18 : ZS, S_18 = zu S_11 27 (x3_4).toNatClampNeg y2 → ∀ S_23 : ZS, S_23 = zu S_18 3 0 (x3_4 + (1 : Int32)) → Q x3_4 S_23
set_option maxHeartbeats 4000000 in
set_option maxRecDepth 100000 in
theorem c_X1_addArc (l : Launch) (D : va_G) (k : Nat → ClassId) (a : Nat → Nat) (hj : zDj a) (y1 : Int32) (y2 : Int32) (S : ZS) (Q : Int32 → ZS → Prop) (hm : X1_addArc y1 y2 S Q) (sz : Nat) : Met l yX1_addArc wsX1_addArc rm_X1_addArc (zPc D k a [.ref (a 3), .int y1, .int y2] S sz) (va_Qi Q (zB D k a) (zA a sz)) 0 0 (zA a sz) := by
  refine Met.ofW (cc := cX1_addArc) (maxL := 4) (ret := (some .int)) (by decide) rfl ?_
  intro p e s m args below meth c s₁ B hml hv
  obtain ⟨rfl, hsz, hP, hK⟩ := hv
  have hx := B.exec
  have hb := B.bytes
  have hr := B.returns
  have hts := atoms_spec (ws := wsX1_addArc) B.pre
  have hown : s.vm.findClass RX1 = some m.cls := findClass_of_methodNamed B.named
  have hlocks := B.notSynchronized
  subst hsz
  have hS : va_S (zA a s.heap.size) s.heap s.heap [] := va_S.rf
  have hF : CallFix p m c cX1_addArc 4 s _ wsX1_addArc RX1 := ⟨hx, hb, hml, hown, hts⟩
  have i1 : ∀ w ∈ wsX10, w ∈ wsX1_addArc := fun _ h => (List.mem_cons_of_mem _ (List.mem_append_right _ h))
  have hl := lv_entry ([.ref (a 3), .int y1, .int y2]) (n := 4) (Nat.le_of_ble_eq_true rfl)
  rw [lg_entry_eq]
  generalize (lg_sl ([.ref (a 3), .int y1, .int y2]) ++ List.replicate (4 - (lg_sl ([.ref (a 3), .int y1, .int y2])).length) Slot.unset).toArray = ls at hl ⊢
  have hl : lv_has ls 4 [(0, .ref (a 3)), (1, .int y1), (2, .int y2)] := hl
  unfold X1_addArc at hm
  refine lv_aload_n hx hb dX1_addArc_0 rfl (lv_at hl 0 rfl) ?_
  refine zg_1_arcs hx hb hts i1 hown hK hP (hts _ (List.mem_of_getElem? (i := 1) rfl)) dX1_addArc_1 ?_
  refine lv_topi (fun x3_4 ex3_4 => ?_)
  have hm := hm x3_4 ex3_4
  refine lv_istore_n (lv' := [(3, .int x3_4), (0, .ref (a 3)), (1, .int y1), (2, .int y2)]) hx hb dX1_addArc_4 rfl hl (by decide) rfl (fun ls hl => ?_)
  refine lv_aload_n hx hb dX1_addArc_5 rfl (lv_at hl 1 rfl) ?_
  refine zg_1_upper hx hb hts i1 hown hK hP (hts _ (List.mem_of_getElem? (i := 2) rfl)) dX1_addArc_6 ?_
  refine lv_iload_n hx hb dX1_addArc_9 rfl (lv_at hl 0 rfl) ?_
  refine lv_iload_n hx hb dX1_addArc_10 rfl (lv_at hl 2 rfl) ?_
  obtain ⟨h_11, hm⟩ := hm
  refine z_iast hx hb hj hK hP hS zI_26 h_11 dX1_addArc_11 (fun H locs hP hS => ?_)
  obtain ⟨S_11, eS_11⟩ : ∃ z : ZS, z = zu S 26 (x3_4).toNatClampNeg y1 := ⟨_, rfl⟩
  rw [← eS_11] at hP
  have hm := hm S_11 eS_11
  refine lv_aload_n hx hb dX1_addArc_12 rfl (lv_at hl 1 rfl) ?_
  refine zg_1_lower hx hb hts i1 hown hK hP (hts _ (List.mem_of_getElem? (i := 3) rfl)) dX1_addArc_13 ?_
  refine lv_iload_n hx hb dX1_addArc_16 rfl (lv_at hl 0 rfl) ?_
  refine lv_iload_n hx hb dX1_addArc_17 rfl (lv_at hl 3 rfl) ?_
  obtain ⟨h_18, hm⟩ := hm
  refine z_iast hx hb hj hK hP hS zI_27 h_18 dX1_addArc_18 (fun H locs hP hS => ?_)
  obtain ⟨S_18, eS_18⟩ : ∃ z : ZS, z = zu S_11 27 (x3_4).toNatClampNeg y2 := ⟨_, rfl⟩
  rw [← eS_18] at hP
  have hm := hm S_18 eS_18
  refine lv_aload_n hx hb dX1_addArc_19 rfl (lv_at hl 1 rfl) ?_
  refine lv_iload_n hx hb dX1_addArc_20 rfl (lv_at hl 0 rfl) ?_
  refine lv_iconst (v := (1 : Int32)) hx hb dX1_addArc_21 (by decide) ?_
  refine lv_iadd hx hb dX1_addArc_22 ?_
  refine zp_1_arcs hx hb hts i1 hown hj hK hP hS (hts _ (List.mem_of_getElem? (i := 1) rfl)) dX1_addArc_23 (fun H locs hP hS => ?_)
  obtain ⟨S_23, eS_23⟩ : ∃ z : ZS, z = zu S_18 3 0 (x3_4 + (1 : Int32)) := ⟨_, rfl⟩
  rw [← eS_23] at hP
  have hm := hm S_23 eS_23
  refine lv_iload_n hx hb dX1_addArc_26 rfl (lv_at hl 0 rfl) ?_
  exact z_reti hx hb hr hlocks hP hS hm dX1_addArc_27

abbrev rm_X1_layColumn : Room := { frames := 1, cells := 0, slots := 0, locals := 23 }
def X1_layColumn_b178 (x4 : Int32) (x5 : Int32) (x6 : Int32) (t0 : Int32) (t1 : Int32) (S : ZS) (Q : ZS → Prop) : Prop :=
  vp_in t1 18 ∧ ∀ S_178 : ZS, S_178 = zu S 31 (t1).toNatClampNeg t0 → vp_in x4 9 ∧ vp_in x6 18 ∧ vp_in x4 9 ∧ ∀ S_195 : ZS, S_195 = zu S_178 33 (x4).toNatClampNeg ((S_178.1 33 (x4).toNatClampNeg) - (S_178.1 31 (x6).toNatClampNeg)) → vp_in x5 9 ∧ vp_in x6 18 ∧ vp_in x5 9 ∧ ∀ S_212 : ZS, S_212 = zu S_195 33 (x5).toNatClampNeg ((S_195.1 33 (x5).toNatClampNeg) + (S_195.1 31 (x6).toNatClampNeg)) → Q S_212
def X1_layColumn_b70 (x3 : Int32) (x4 : Int32) (x5 : Int32) (S : ZS) (Q : ZS → Prop) : Prop :=
  X1_addArc x4 x5 S (fun r_75 S_75 => vp_in x3 10 ∧ vp_in r_75 18 ∧ ∀ S_92 : ZS, S_92 = zu S_75 28 (r_75).toNatClampNeg (S_75.1 8 (x3).toNatClampNeg) → vp_in x3 10 ∧ vp_in r_75 18 ∧ ∀ S_105 : ZS, S_105 = zu S_92 29 (r_75).toNatClampNeg (S_92.1 9 (x3).toNatClampNeg) → vp_in x3 10 ∧ vp_in r_75 18 ∧ ∀ S_118 : ZS, S_118 = zu S_105 30 (r_75).toNatClampNeg (S_105.1 10 (x3).toNatClampNeg) → vp_in r_75 18 ∧ vp_in r_75 18 ∧ ∀ S_144 : ZS, S_144 = zu S_118 32 (r_75).toNatClampNeg (((S_118.1 30 (r_75).toNatClampNeg) * (1024 : Int32)) + ((1024 : Int32) >>> ((x3 + (1 : Int32)) &&& 31))) → vp_in r_75 18 ∧ ((S_144.1 32 (r_75).toNatClampNeg) ≤ 0 → vp_in r_75 18 ∧ X1_layColumn_b178 x4 x5 r_75 (S_144.1 29 (r_75).toNatClampNeg) r_75 S_144 Q) ∧ (¬ (S_144.1 32 (r_75).toNatClampNeg) ≤ 0 → vp_in r_75 18 ∧ X1_layColumn_b178 x4 x5 r_75 (S_144.1 28 (r_75).toNatClampNeg) r_75 S_144 Q))
def X1_layColumn_b62 (x3 : Int32) (x4 : Int32) (x6 : Int32) (t0 : Int32) (S : ZS) (Q : ZS → Prop) (k11 : Int32 × Int32 × Int32 × ZS → Prop) : Prop :=
  ∀ x6_64 : Int32, x6_64 = x6 + (1 : Int32) → k11 (x4, t0, x6_64, S)
def X1_layColumn_b48 (x3 : Int32) (x5 : Int32) (x6 : Int32) (x7 : Int32) (t0 : Int32) (S : ZS) (Q : ZS → Prop) (k11 : Int32 × Int32 × Int32 × ZS → Prop) : Prop :=
  (0 ≤ x7 → X1_layColumn_b62 x3 t0 x6 x5 S Q k11) ∧ (¬ 0 ≤ x7 → X1_layColumn_b62 x3 t0 x6 x6 S Q k11)
def X1_layColumn_B11 (x3 : Int32) (x4 : Int32) (x5 : Int32) (x6 : Int32) (S : ZS) (Q : ZS → Prop) (k11 : Int32 × Int32 × Int32 × ZS → Prop) : Prop :=
  ((S.1 1 1) ≤ x6 → X1_layColumn_b70 x3 x4 x5 S Q) ∧ (¬ (S.1 1 1) ≤ x6 → vp_in x6 8 ∧ vp_in x3 10 ∧ vp_in x6 8 ∧ ∀ x7_34 : Int32, x7_34 = ((S.1 (14 + (x6).toNatClampNeg) (x3).toNatClampNeg) * (S.1 23 (x6).toNatClampNeg)) → (x7_34 ≤ 0 → X1_layColumn_b48 x3 x5 x6 x7_34 x4 S Q k11) ∧ (¬ x7_34 ≤ 0 → X1_layColumn_b48 x3 x5 x6 x7_34 x6 S Q k11))
def X1_layColumn_L11 (x3 : Int32) (Q : ZS → Prop) : (Int32 × Int32 × Int32 × ZS) → ((Int32 × Int32 × Int32 × ZS) → Prop) → Prop := fun st k11 => X1_layColumn_B11 x3 st.1 st.2.1 st.2.2.1 st.2.2.2 Q k11
def X1_layColumn (y3 : Int32) (S : ZS) (Q : ZS → Prop) : Prop :=
  zl (X1_layColumn_L11 y3 Q) ((8 : Int32), (8 : Int32), (0 : Int32), S)
set_option maxHeartbeats 4000000 in
set_option maxRecDepth 100000 in
theorem c_X1_layColumn (l : Launch) (D : va_G) (k : Nat → ClassId) (a : Nat → Nat) (hj : zDj a) (y3 : Int32) (S : ZS) (Q : ZS → Prop) (hm : X1_layColumn y3 S Q) (sz : Nat) : Met l yX1_layColumn wsX1_layColumn rm_X1_layColumn (zPc D k a [.ref (a 3), .ref (a 1), .ref (a 23), .int y3] S sz) (va_Qv Q (zB D k a) (zA a sz)) 0 0 (zA a sz) := by
  refine Met.ofW (cc := cX1_layColumn) (maxL := 8) (ret := none) (by decide) rfl ?_
  intro p e s m args below meth c s₁ B hml hv
  obtain ⟨rfl, hsz, hP, hK⟩ := hv
  have hx := B.exec
  have hb := B.bytes
  have hr := B.returns
  have hts := atoms_spec (ws := wsX1_layColumn) B.pre
  have hown : s.vm.findClass RX1 = some m.cls := findClass_of_methodNamed B.named
  have hlocks := B.notSynchronized
  subst hsz
  have hS : va_S (zA a s.heap.size) s.heap s.heap [] := va_S.rf
  have hF : CallFix p m c cX1_layColumn 8 s _ wsX1_layColumn RX1 := ⟨hx, hb, hml, hown, hts⟩
  have i1 : ∀ w ∈ wsX10, w ∈ wsX1_layColumn := fun _ h => (List.mem_cons_of_mem _ (List.mem_append_right _ h))
  have i5 : ∀ w ∈ wsX50, w ∈ wsX1_layColumn := fun _ h => (List.mem_cons_of_mem _ (List.mem_append_left _ (List.mem_append_right _ h)))
  have hl := lv_entry ([.ref (a 3), .ref (a 1), .ref (a 23), .int y3]) (n := 8) (Nat.le_of_ble_eq_true rfl)
  rw [lg_entry_eq]
  generalize (lg_sl ([.ref (a 3), .ref (a 1), .ref (a 23), .int y3]) ++ List.replicate (8 - (lg_sl ([.ref (a 3), .ref (a 1), .ref (a 23), .int y3])).length) Slot.unset).toArray = ls at hl ⊢
  have hl : lv_has ls 8 [(0, .ref (a 3)), (1, .ref (a 1)), (2, .ref (a 23)), (3, .int y3)] := hl
  have b70 : ∀ (x3 : Int32) (x4 : Int32) (x5 : Int32) (S : ZS) (H : Heap) (locs : List Loc) (ls : Array Slot), X1_layColumn_b70 x3 x4 x5 S Q → va_P D vwCl (zWS k a S) H → va_S (zA a s.heap.size) s.heap H locs → lv_has ls 8 [(0, .ref (a 3)), (1, .ref (a 1)), (2, .ref (a 23)), (3, .int x3), (4, .int x4), (5, .int x5)] → zWv p l e (headSpec wsX1_layColumn rm_X1_layColumn).room s m ([.ref (a 3), .ref (a 1), .ref (a 23), .int y3] : List Value) below meth c D k a Q H locs (F0 m 70 ls []) := by
    intro x3 x4 x5 S H locs ls hm hP hS hl
    unfold X1_layColumn_b70 at hm
    have b178 : ∀ (x4 : Int32) (x5 : Int32) (x6 : Int32) (t0 : Int32) (t1 : Int32) (S : ZS) (H : Heap) (locs : List Loc) (ls : Array Slot), X1_layColumn_b178 x4 x5 x6 t0 t1 S Q → va_P D vwCl (zWS k a S) H → va_S (zA a s.heap.size) s.heap H locs → lv_has ls 8 [(0, .ref (a 3)), (1, .ref (a 1)), (2, .ref (a 23)), (4, .int x4), (5, .int x5), (6, .int x6)] → zWv p l e (headSpec wsX1_layColumn rm_X1_layColumn).room s m ([.ref (a 3), .ref (a 1), .ref (a 23), .int y3] : List Value) below meth c D k a Q H locs (F0 m 178 ls [.int t0, .int t1, .ref (a 31)]) := by
      intro x4 x5 x6 t0 t1 S H locs ls hm hP hS hl
      unfold X1_layColumn_b178 at hm
      obtain ⟨h_178, hm⟩ := hm
      refine z_iast hx hb hj hK hP hS zI_31 h_178 dX1_layColumn_178 (fun H locs hP hS => ?_)
      obtain ⟨S_178, eS_178⟩ : ∃ z : ZS, z = zu S 31 (t1).toNatClampNeg t0 := ⟨_, rfl⟩
      rw [← eS_178] at hP
      have hm := hm S_178 eS_178
      refine lv_aload_n hx hb dX1_layColumn_179 rfl (lv_at hl 0 rfl) ?_
      refine zg_1_need hx hb hts i1 hown hK hP (hts _ (List.mem_of_getElem? (i := 11) rfl)) dX1_layColumn_180 ?_
      refine lv_iload hx hb dX1_layColumn_183 (lv_at hl 3 rfl) ?_
      refine lv_dup2_11 hx hb dX1_layColumn_185 rfl rfl ?_
      obtain ⟨h_186, hm⟩ := hm
      refine z_iald hx hb hK hP zI_33 h_186 dX1_layColumn_186 ?_
      refine lv_aload_n hx hb dX1_layColumn_187 rfl (lv_at hl 0 rfl) ?_
      refine zg_1_amount hx hb hts i1 hown hK hP (hts _ (List.mem_of_getElem? (i := 10) rfl)) dX1_layColumn_188 ?_
      refine lv_iload hx hb dX1_layColumn_191 (lv_at hl 5 rfl) ?_
      obtain ⟨h_193, hm⟩ := hm
      refine z_iald hx hb hK hP zI_31 h_193 dX1_layColumn_193 ?_
      refine lv_isub hx hb dX1_layColumn_194 ?_
      obtain ⟨h_195, hm⟩ := hm
      refine z_iast hx hb hj hK hP hS zI_33 h_195 dX1_layColumn_195 (fun H locs hP hS => ?_)
      obtain ⟨S_195, eS_195⟩ : ∃ z : ZS, z = zu S_178 33 (x4).toNatClampNeg ((S_178.1 33 (x4).toNatClampNeg) - (S_178.1 31 (x6).toNatClampNeg)) := ⟨_, rfl⟩
      rw [← eS_195] at hP
      have hm := hm S_195 eS_195
      refine lv_aload_n hx hb dX1_layColumn_196 rfl (lv_at hl 0 rfl) ?_
      refine zg_1_need hx hb hts i1 hown hK hP (hts _ (List.mem_of_getElem? (i := 11) rfl)) dX1_layColumn_197 ?_
      refine lv_iload hx hb dX1_layColumn_200 (lv_at hl 4 rfl) ?_
      refine lv_dup2_11 hx hb dX1_layColumn_202 rfl rfl ?_
      obtain ⟨h_203, hm⟩ := hm
      refine z_iald hx hb hK hP zI_33 h_203 dX1_layColumn_203 ?_
      refine lv_aload_n hx hb dX1_layColumn_204 rfl (lv_at hl 0 rfl) ?_
      refine zg_1_amount hx hb hts i1 hown hK hP (hts _ (List.mem_of_getElem? (i := 10) rfl)) dX1_layColumn_205 ?_
      refine lv_iload hx hb dX1_layColumn_208 (lv_at hl 5 rfl) ?_
      obtain ⟨h_210, hm⟩ := hm
      refine z_iald hx hb hK hP zI_31 h_210 dX1_layColumn_210 ?_
      refine lv_iadd hx hb dX1_layColumn_211 ?_
      obtain ⟨h_212, hm⟩ := hm
      refine z_iast hx hb hj hK hP hS zI_33 h_212 dX1_layColumn_212 (fun H locs hP hS => ?_)
      obtain ⟨S_212, eS_212⟩ : ∃ z : ZS, z = zu S_195 33 (x5).toNatClampNeg ((S_195.1 33 (x5).toNatClampNeg) + (S_195.1 31 (x6).toNatClampNeg)) := ⟨_, rfl⟩
      rw [← eS_212] at hP
      have hm := hm S_212 eS_212
      exact z_retv hx hb hr hlocks hP hS hm dX1_layColumn_213
    refine lv_aload_n hx hb dX1_layColumn_70 rfl (lv_at hl 0 rfl) ?_
    refine lv_iload hx hb dX1_layColumn_71 (lv_at hl 4 rfl) ?_
    refine lv_iload hx hb dX1_layColumn_73 (lv_at hl 5 rfl) ?_
    refine z_cVi (As := [.int x4, .int x5]) (rest := []) hF hK hP hS zO_3 rfl rfl (c_X1_addArc l D k a hj x4 x5 S _ hm _) (cwV 2 hts gX1_layColumn_X1_addArc rfl rfl rfl (by decide +kernel) ⟨Nat.le_of_ble_eq_true rfl, Nat.le_of_ble_eq_true rfl⟩) rfl hl.1 rfl (Nat.le_of_ble_eq_true rfl) dX1_layColumn_75 ⟨Nat.zero_le _, Nat.zero_le _⟩ (fun r_75 S_75 H locs hm hP hS => ?_)
    refine lv_istore (lv' := [(6, .int r_75), (0, .ref (a 3)), (1, .ref (a 1)), (2, .ref (a 23)), (3, .int x3), (4, .int x4), (5, .int x5)]) hx hb dX1_layColumn_78 hl (by decide) rfl (fun ls hl => ?_)
    refine lv_aload_n hx hb dX1_layColumn_80 rfl (lv_at hl 1 rfl) ?_
    refine zg_1_low hx hb hts i1 hown hK hP (hts _ (List.mem_of_getElem? (i := 3) rfl)) dX1_layColumn_81 ?_
    refine lv_iload hx hb dX1_layColumn_84 (lv_at hl 0 rfl) ?_
    refine lv_aload_n hx hb dX1_layColumn_86 rfl (lv_at hl 2 rfl) ?_
    refine zg_5_low hx hb hts i5 hown hK hP (hts _ (List.mem_of_getElem? (i := 4) rfl)) dX1_layColumn_87 ?_
    refine lv_iload_n hx hb dX1_layColumn_90 rfl (lv_at hl 4 rfl) ?_
    obtain ⟨h_91, hm⟩ := hm
    refine z_iald hx hb hK hP zI_8 h_91 dX1_layColumn_91 ?_
    obtain ⟨h_92, hm⟩ := hm
    refine z_iast hx hb hj hK hP hS zI_28 h_92 dX1_layColumn_92 (fun H locs hP hS => ?_)
    obtain ⟨S_92, eS_92⟩ : ∃ z : ZS, z = zu S_75 28 (r_75).toNatClampNeg (S_75.1 8 (x3).toNatClampNeg) := ⟨_, rfl⟩
    rw [← eS_92] at hP
    have hm := hm S_92 eS_92
    refine lv_aload_n hx hb dX1_layColumn_93 rfl (lv_at hl 1 rfl) ?_
    refine zg_1_high hx hb hts i1 hown hK hP (hts _ (List.mem_of_getElem? (i := 5) rfl)) dX1_layColumn_94 ?_
    refine lv_iload hx hb dX1_layColumn_97 (lv_at hl 0 rfl) ?_
    refine lv_aload_n hx hb dX1_layColumn_99 rfl (lv_at hl 2 rfl) ?_
    refine zg_5_high hx hb hts i5 hown hK hP (hts _ (List.mem_of_getElem? (i := 6) rfl)) dX1_layColumn_100 ?_
    refine lv_iload_n hx hb dX1_layColumn_103 rfl (lv_at hl 4 rfl) ?_
    obtain ⟨h_104, hm⟩ := hm
    refine z_iald hx hb hK hP zI_9 h_104 dX1_layColumn_104 ?_
    obtain ⟨h_105, hm⟩ := hm
    refine z_iast hx hb hj hK hP hS zI_29 h_105 dX1_layColumn_105 (fun H locs hP hS => ?_)
    obtain ⟨S_105, eS_105⟩ : ∃ z : ZS, z = zu S_92 29 (r_75).toNatClampNeg (S_92.1 9 (x3).toNatClampNeg) := ⟨_, rfl⟩
    rw [← eS_105] at hP
    have hm := hm S_105 eS_105
    refine lv_aload_n hx hb dX1_layColumn_106 rfl (lv_at hl 1 rfl) ?_
    refine zg_1_cost hx hb hts i1 hown hK hP (hts _ (List.mem_of_getElem? (i := 7) rfl)) dX1_layColumn_107 ?_
    refine lv_iload hx hb dX1_layColumn_110 (lv_at hl 0 rfl) ?_
    refine lv_aload_n hx hb dX1_layColumn_112 rfl (lv_at hl 2 rfl) ?_
    refine zg_5_cost hx hb hts i5 hown hK hP (hts _ (List.mem_of_getElem? (i := 8) rfl)) dX1_layColumn_113 ?_
    refine lv_iload_n hx hb dX1_layColumn_116 rfl (lv_at hl 4 rfl) ?_
    obtain ⟨h_117, hm⟩ := hm
    refine z_iald hx hb hK hP zI_10 h_117 dX1_layColumn_117 ?_
    obtain ⟨h_118, hm⟩ := hm
    refine z_iast hx hb hj hK hP hS zI_30 h_118 dX1_layColumn_118 (fun H locs hP hS => ?_)
    obtain ⟨S_118, eS_118⟩ : ∃ z : ZS, z = zu S_105 30 (r_75).toNatClampNeg (S_105.1 10 (x3).toNatClampNeg) := ⟨_, rfl⟩
    rw [← eS_118] at hP
    have hm := hm S_118 eS_118
    refine lv_aload_n hx hb dX1_layColumn_119 rfl (lv_at hl 1 rfl) ?_
    refine zg_1_weight hx hb hts i1 hown hK hP (hts _ (List.mem_of_getElem? (i := 9) rfl)) dX1_layColumn_120 ?_
    refine lv_iload hx hb dX1_layColumn_123 (lv_at hl 0 rfl) ?_
    refine lv_aload_n hx hb dX1_layColumn_125 rfl (lv_at hl 1 rfl) ?_
    refine zg_1_cost hx hb hts i1 hown hK hP (hts _ (List.mem_of_getElem? (i := 7) rfl)) dX1_layColumn_126 ?_
    refine lv_iload hx hb dX1_layColumn_129 (lv_at hl 0 rfl) ?_
    obtain ⟨h_131, hm⟩ := hm
    refine z_iald hx hb hK hP zI_30 h_131 dX1_layColumn_131 ?_
    refine lv_sipush (v := (1024 : Int32)) hx hb dX1_layColumn_132 (by decide) ?_
    refine lv_imul hx hb dX1_layColumn_135 ?_
    refine lv_sipush (v := (1024 : Int32)) hx hb dX1_layColumn_136 (by decide) ?_
    refine lv_iload_n hx hb dX1_layColumn_139 rfl (lv_at hl 4 rfl) ?_
    refine lv_iconst (v := (1 : Int32)) hx hb dX1_layColumn_140 (by decide) ?_
    refine lv_iadd hx hb dX1_layColumn_141 ?_
    refine lv_ishr hx hb dX1_layColumn_142 ?_
    refine lv_iadd hx hb dX1_layColumn_143 ?_
    obtain ⟨h_144, hm⟩ := hm
    refine z_iast hx hb hj hK hP hS zI_32 h_144 dX1_layColumn_144 (fun H locs hP hS => ?_)
    obtain ⟨S_144, eS_144⟩ : ∃ z : ZS, z = zu S_118 32 (r_75).toNatClampNeg (((S_118.1 30 (r_75).toNatClampNeg) * (1024 : Int32)) + ((1024 : Int32) >>> ((x3 + (1 : Int32)) &&& 31))) := ⟨_, rfl⟩
    rw [← eS_144] at hP
    have hm := hm S_144 eS_144
    refine lv_aload_n hx hb dX1_layColumn_145 rfl (lv_at hl 1 rfl) ?_
    refine zg_1_amount hx hb hts i1 hown hK hP (hts _ (List.mem_of_getElem? (i := 10) rfl)) dX1_layColumn_146 ?_
    refine lv_iload hx hb dX1_layColumn_149 (lv_at hl 0 rfl) ?_
    refine lv_aload_n hx hb dX1_layColumn_151 rfl (lv_at hl 1 rfl) ?_
    refine zg_1_weight hx hb hts i1 hown hK hP (hts _ (List.mem_of_getElem? (i := 9) rfl)) dX1_layColumn_152 ?_
    refine lv_iload hx hb dX1_layColumn_155 (lv_at hl 0 rfl) ?_
    obtain ⟨h_157, hm⟩ := hm
    refine z_iald hx hb hK hP zI_32 h_157 dX1_layColumn_157 ?_
    refine lv_if_le (tgt := 171) hx hb dX1_layColumn_158 (by decide) (fun c_158 => ?_) (fun c_158 => ?_)
    · have hm := hm.1 c_158
      refine lv_aload_n hx hb dX1_layColumn_171 rfl (lv_at hl 1 rfl) ?_
      refine zg_1_high hx hb hts i1 hown hK hP (hts _ (List.mem_of_getElem? (i := 5) rfl)) dX1_layColumn_172 ?_
      refine lv_iload hx hb dX1_layColumn_175 (lv_at hl 0 rfl) ?_
      obtain ⟨h_177, hm⟩ := hm
      refine z_iald hx hb hK hP zI_29 h_177 dX1_layColumn_177 ?_
      exact b178 x4 x5 r_75 (S_144.1 29 (r_75).toNatClampNeg) r_75 S_144 _ _ _ hm hP hS (lv_sub hl [1, 2, 3, 5, 6, 0] rfl)
    · have hm := hm.2 c_158
      refine lv_aload_n hx hb dX1_layColumn_161 rfl (lv_at hl 1 rfl) ?_
      refine zg_1_low hx hb hts i1 hown hK hP (hts _ (List.mem_of_getElem? (i := 3) rfl)) dX1_layColumn_162 ?_
      refine lv_iload hx hb dX1_layColumn_165 (lv_at hl 0 rfl) ?_
      obtain ⟨h_167, hm⟩ := hm
      refine z_iald hx hb hK hP zI_28 h_167 dX1_layColumn_167 ?_
      refine lv_goto (tgt := 178) hx hb dX1_layColumn_168 (by decide) ?_
      exact b178 x4 x5 r_75 (S_144.1 28 (r_75).toNatClampNeg) r_75 S_144 _ _ _ hm hP hS (lv_sub hl [1, 2, 3, 5, 6, 0] rfl)
  have L11 : ∀ (x3 : Int32) (n : Nat) (x4 : Int32) (x5 : Int32) (x6 : Int32) (S : ZS) (H : Heap) (locs : List Loc) (ls : Array Slot), zn (X1_layColumn_L11 x3 Q) n (x4, x5, x6, S) → va_P D vwCl (zWS k a S) H → va_S (zA a s.heap.size) s.heap H locs → lv_has ls 8 [(0, .ref (a 3)), (1, .ref (a 1)), (2, .ref (a 23)), (3, .int x3), (4, .int x4), (5, .int x5), (6, .int x6)] → zWv p l e (headSpec wsX1_layColumn rm_X1_layColumn).room s m ([.ref (a 3), .ref (a 1), .ref (a 23), .int y3] : List Value) below meth c D k a Q H locs (F0 m 11 ls []) := by
    intro x3 n
    induction n with
    | zero =>
      intro x4 x5 x6 S H locs ls hm
      exact hm.elim
    | succ n ih11 =>
      intro x4 x5 x6 S H locs ls hm hP hS hl
      have hm : X1_layColumn_B11 x3 x4 x5 x6 S Q (zn (X1_layColumn_L11 x3 Q) n) := hm
      generalize zn (X1_layColumn_L11 x3 Q) n = k11 at hm ih11
      unfold X1_layColumn_B11 at hm
      have b48 : ∀ (x5 : Int32) (x6 : Int32) (x7 : Int32) (t0 : Int32) (S : ZS) (H : Heap) (locs : List Loc) (ls : Array Slot), X1_layColumn_b48 x3 x5 x6 x7 t0 S Q k11 → va_P D vwCl (zWS k a S) H → va_S (zA a s.heap.size) s.heap H locs → lv_has ls 8 [(0, .ref (a 3)), (1, .ref (a 1)), (2, .ref (a 23)), (3, .int x3), (5, .int x5), (6, .int x6), (7, .int x7)] → zWv p l e (headSpec wsX1_layColumn rm_X1_layColumn).room s m ([.ref (a 3), .ref (a 1), .ref (a 23), .int y3] : List Value) below meth c D k a Q H locs (F0 m 48 ls [.int t0]) := by
        intro x5 x6 x7 t0 S H locs ls hm hP hS hl
        unfold X1_layColumn_b48 at hm
        have b62 : ∀ (x4 : Int32) (x6 : Int32) (t0 : Int32) (S : ZS) (H : Heap) (locs : List Loc) (ls : Array Slot), X1_layColumn_b62 x3 x4 x6 t0 S Q k11 → va_P D vwCl (zWS k a S) H → va_S (zA a s.heap.size) s.heap H locs → lv_has ls 8 [(0, .ref (a 3)), (1, .ref (a 1)), (2, .ref (a 23)), (3, .int x3), (4, .int x4), (6, .int x6)] → zWv p l e (headSpec wsX1_layColumn rm_X1_layColumn).room s m ([.ref (a 3), .ref (a 1), .ref (a 23), .int y3] : List Value) below meth c D k a Q H locs (F0 m 62 ls [.int t0]) := by
          intro x4 x6 t0 S H locs ls hm hP hS hl
          unfold X1_layColumn_b62 at hm
          refine lv_istore (lv' := [(5, .int t0), (0, .ref (a 3)), (1, .ref (a 1)), (2, .ref (a 23)), (3, .int x3), (4, .int x4), (6, .int x6)]) hx hb dX1_layColumn_62 hl (by decide) rfl (fun ls hl => ?_)
          obtain ⟨x6_64, ex6_64⟩ : ∃ y : Int32, y = x6 + (1 : Int32) := ⟨_, rfl⟩
          have hm := hm x6_64 ex6_64
          refine lv_iinc (v := x6_64) (lv' := [(6, .int x6_64), (5, .int t0), (0, .ref (a 3)), (1, .ref (a 1)), (2, .ref (a 23)), (3, .int x3), (4, .int x4)]) hx hb dX1_layColumn_64 hl (k := 6) rfl (by rw [ex6_64]; rfl) (by decide) rfl (fun ls hl => ?_)
          refine lv_goto (tgt := 11) hx hb dX1_layColumn_67 (by decide) ?_
          exact ih11 x4 t0 x6_64 S _ _ _ hm hP hS (lv_sub hl [2, 3, 4, 5, 6, 1, 0] rfl)
        refine lv_istore (lv' := [(4, .int t0), (0, .ref (a 3)), (1, .ref (a 1)), (2, .ref (a 23)), (3, .int x3), (5, .int x5), (6, .int x6), (7, .int x7)]) hx hb dX1_layColumn_48 hl (by decide) rfl (fun ls hl => ?_)
        refine lv_iload hx hb dX1_layColumn_50 (lv_at hl 7 rfl) ?_
        refine lv_if_ge (tgt := 60) hx hb dX1_layColumn_52 (by decide) (fun c_52 => ?_) (fun c_52 => ?_)
        · have hm := hm.1 c_52
          refine lv_iload hx hb dX1_layColumn_60 (lv_at hl 5 rfl) ?_
          exact b62 t0 x6 x5 S _ _ _ hm hP hS (lv_sub hl [1, 2, 3, 4, 0, 6] rfl)
        · have hm := hm.2 c_52
          refine lv_iload hx hb dX1_layColumn_55 (lv_at hl 6 rfl) ?_
          refine lv_goto (tgt := 62) hx hb dX1_layColumn_57 (by decide) ?_
          exact b62 t0 x6 x6 S _ _ _ hm hP hS (lv_sub hl [1, 2, 3, 4, 0, 6] rfl)
      refine lv_iload hx hb dX1_layColumn_11 (lv_at hl 6 rfl) ?_
      refine lv_aload_n hx hb dX1_layColumn_13 rfl (lv_at hl 1 rfl) ?_
      refine zg_5_rows hx hb hts i5 hown hK hP (hts _ (List.mem_of_getElem? (i := 1) rfl)) dX1_layColumn_14 ?_
      refine lv_icmp_ge (tgt := 70) hx hb dX1_layColumn_17 (by decide) (fun c_17 => ?_) (fun c_17 => ?_)
      · have hm := hm.1 c_17
        exact b70 x3 x4 x5 S _ _ _ hm hP hS (lv_sub hl [0, 1, 2, 3, 4, 5] rfl)
      · have hm := hm.2 c_17
        refine lv_aload_n hx hb dX1_layColumn_20 rfl (lv_at hl 1 rfl) ?_
        refine zg_5_a hx hb hts i5 hown hK hP (hts _ (List.mem_of_getElem? (i := 2) rfl)) dX1_layColumn_21 ?_
        refine lv_iload hx hb dX1_layColumn_24 (lv_at hl 6 rfl) ?_
        obtain ⟨h_26, hm⟩ := hm
        refine z_aald hx hb hK hP zQ_13 h_26 dX1_layColumn_26 ?_
        refine lv_iload_n hx hb dX1_layColumn_27 rfl (lv_at hl 3 rfl) ?_
        obtain ⟨h_28, hm⟩ := hm
        refine z_iald hx hb hK hP (zRi_13 h_26) h_28 dX1_layColumn_28 ?_
        refine lv_aload_n hx hb dX1_layColumn_29 rfl (lv_at hl 2 rfl) ?_
        refine lv_iload hx hb dX1_layColumn_30 (lv_at hl 6 rfl) ?_
        obtain ⟨h_32, hm⟩ := hm
        refine z_iald hx hb hK hP zI_23 h_32 dX1_layColumn_32 ?_
        refine lv_imul hx hb dX1_layColumn_33 ?_
        refine lv_topi (fun x7_34 ex7_34 => ?_)
        have hm := hm x7_34 ex7_34
        refine lv_istore (lv' := [(7, .int x7_34), (0, .ref (a 3)), (1, .ref (a 1)), (2, .ref (a 23)), (3, .int x3), (4, .int x4), (5, .int x5), (6, .int x6)]) hx hb dX1_layColumn_34 hl (by decide) rfl (fun ls hl => ?_)
        refine lv_iload hx hb dX1_layColumn_36 (lv_at hl 0 rfl) ?_
        refine lv_if_le (tgt := 46) hx hb dX1_layColumn_38 (by decide) (fun c_38 => ?_) (fun c_38 => ?_)
        · have hm := hm.1 c_38
          refine lv_iload hx hb dX1_layColumn_46 (lv_at hl 5 rfl) ?_
          exact b48 x5 x6 x7_34 x4 S _ _ _ hm hP hS (lv_sub hl [1, 2, 3, 4, 6, 7, 0] rfl)
        · have hm := hm.2 c_38
          refine lv_iload hx hb dX1_layColumn_41 (lv_at hl 7 rfl) ?_
          refine lv_goto (tgt := 48) hx hb dX1_layColumn_43 (by decide) ?_
          exact b48 x5 x6 x7_34 x6 S _ _ _ hm hP hS (lv_sub hl [1, 2, 3, 4, 6, 7, 0] rfl)
  unfold X1_layColumn at hm
  refine lv_bipush (v := (8 : Int32)) hx hb dX1_layColumn_0 (by decide) ?_
  refine lv_istore (lv' := [(4, .int (8 : Int32)), (0, .ref (a 3)), (1, .ref (a 1)), (2, .ref (a 23)), (3, .int y3)]) hx hb dX1_layColumn_2 hl (by decide) rfl (fun ls hl => ?_)
  refine lv_bipush (v := (8 : Int32)) hx hb dX1_layColumn_4 (by decide) ?_
  refine lv_istore (lv' := [(5, .int (8 : Int32)), (4, .int (8 : Int32)), (0, .ref (a 3)), (1, .ref (a 1)), (2, .ref (a 23)), (3, .int y3)]) hx hb dX1_layColumn_6 hl (by decide) rfl (fun ls hl => ?_)
  refine lv_iconst (v := (0 : Int32)) hx hb dX1_layColumn_8 (by decide) ?_
  refine lv_istore (lv' := [(6, .int (0 : Int32)), (5, .int (8 : Int32)), (4, .int (8 : Int32)), (0, .ref (a 3)), (1, .ref (a 1)), (2, .ref (a 23)), (3, .int y3)]) hx hb dX1_layColumn_9 hl (by decide) rfl (fun ls hl => ?_)
  obtain ⟨n11, hm⟩ := hm
  exact L11 y3 n11 (8 : Int32) (8 : Int32) (0 : Int32) S _ _ _ hm hP hS (lv_sub hl [3, 4, 5, 6, 2, 1, 0] rfl)

abbrev rm_X1_layFree : Room := { frames := 1, cells := 0, slots := 0, locals := 23 }
def X1_layFree_b21 (t0 : Int32) (S : ZS) (Q : ZS → Prop) : Prop :=
  vp_in t0 18 ∧ ∀ S_28 : ZS, S_28 = zu S 28 (t0).toNatClampNeg (0 : Int32) → vp_in t0 18 ∧ ∀ S_36 : ZS, S_36 = zu S_28 29 (t0).toNatClampNeg (1000000 : Int32) → vp_in t0 18 ∧ ∀ S_43 : ZS, S_43 = zu S_36 30 (t0).toNatClampNeg (0 : Int32) → vp_in t0 18 ∧ ∀ S_50 : ZS, S_50 = zu S_43 32 (t0).toNatClampNeg (0 : Int32) → vp_in t0 18 ∧ ∀ S_57 : ZS, S_57 = zu S_50 31 (t0).toNatClampNeg (0 : Int32) → Q S_57
def X1_layFree (y1 : Int32) (y2 : Int32) (S : ZS) (Q : ZS → Prop) : Prop :=
  (y2 ≤ 0 → X1_addArc (8 : Int32) y1 S (fun r_18 S_18 => X1_layFree_b21 r_18 S_18 Q)) ∧ (¬ y2 ≤ 0 → X1_addArc y1 (8 : Int32) S (fun r_8 S_8 => X1_layFree_b21 r_8 S_8 Q))
set_option maxHeartbeats 4000000 in
set_option maxRecDepth 100000 in
theorem c_X1_layFree (l : Launch) (D : va_G) (k : Nat → ClassId) (a : Nat → Nat) (hj : zDj a) (y1 : Int32) (y2 : Int32) (S : ZS) (Q : ZS → Prop) (hm : X1_layFree y1 y2 S Q) (sz : Nat) : Met l yX1_layFree wsX1_layFree rm_X1_layFree (zPc D k a [.ref (a 3), .int y1, .int y2] S sz) (va_Qv Q (zB D k a) (zA a sz)) 0 0 (zA a sz) := by
  refine Met.ofW (cc := cX1_layFree) (maxL := 4) (ret := none) (by decide) rfl ?_
  intro p e s m args below meth c s₁ B hml hv
  obtain ⟨rfl, hsz, hP, hK⟩ := hv
  have hx := B.exec
  have hb := B.bytes
  have hr := B.returns
  have hts := atoms_spec (ws := wsX1_layFree) B.pre
  have hown : s.vm.findClass RX1 = some m.cls := findClass_of_methodNamed B.named
  have hlocks := B.notSynchronized
  subst hsz
  have hS : va_S (zA a s.heap.size) s.heap s.heap [] := va_S.rf
  have hF : CallFix p m c cX1_layFree 4 s _ wsX1_layFree RX1 := ⟨hx, hb, hml, hown, hts⟩
  have i1 : ∀ w ∈ wsX10, w ∈ wsX1_layFree := fun _ h => (List.mem_cons_of_mem _ (List.mem_append_right _ h))
  have hl := lv_entry ([.ref (a 3), .int y1, .int y2]) (n := 4) (Nat.le_of_ble_eq_true rfl)
  rw [lg_entry_eq]
  generalize (lg_sl ([.ref (a 3), .int y1, .int y2]) ++ List.replicate (4 - (lg_sl ([.ref (a 3), .int y1, .int y2])).length) Slot.unset).toArray = ls at hl ⊢
  have hl : lv_has ls 4 [(0, .ref (a 3)), (1, .int y1), (2, .int y2)] := hl
  have b21 : ∀ (t0 : Int32) (S : ZS) (H : Heap) (locs : List Loc) (ls : Array Slot), X1_layFree_b21 t0 S Q → va_P D vwCl (zWS k a S) H → va_S (zA a s.heap.size) s.heap H locs → lv_has ls 4 [(0, .ref (a 3))] → zWv p l e (headSpec wsX1_layFree rm_X1_layFree).room s m ([.ref (a 3), .int y1, .int y2] : List Value) below meth c D k a Q H locs (F0 m 21 ls [.int t0]) := by
    intro t0 S H locs ls hm hP hS hl
    unfold X1_layFree_b21 at hm
    refine lv_istore_n (lv' := [(3, .int t0), (0, .ref (a 3))]) hx hb dX1_layFree_21 rfl hl (by decide) rfl (fun ls hl => ?_)
    refine lv_aload_n hx hb dX1_layFree_22 rfl (lv_at hl 1 rfl) ?_
    refine zg_1_low hx hb hts i1 hown hK hP (hts _ (List.mem_of_getElem? (i := 1) rfl)) dX1_layFree_23 ?_
    refine lv_iload_n hx hb dX1_layFree_26 rfl (lv_at hl 0 rfl) ?_
    refine lv_iconst (v := (0 : Int32)) hx hb dX1_layFree_27 (by decide) ?_
    obtain ⟨h_28, hm⟩ := hm
    refine z_iast hx hb hj hK hP hS zI_28 h_28 dX1_layFree_28 (fun H locs hP hS => ?_)
    obtain ⟨S_28, eS_28⟩ : ∃ z : ZS, z = zu S 28 (t0).toNatClampNeg (0 : Int32) := ⟨_, rfl⟩
    rw [← eS_28] at hP
    have hm := hm S_28 eS_28
    refine lv_aload_n hx hb dX1_layFree_29 rfl (lv_at hl 1 rfl) ?_
    refine zg_1_high hx hb hts i1 hown hK hP (hts _ (List.mem_of_getElem? (i := 2) rfl)) dX1_layFree_30 ?_
    refine lv_iload_n hx hb dX1_layFree_33 rfl (lv_at hl 0 rfl) ?_
    refine lv_ldc (v := (1000000 : Int32)) hx hb hown (hts _ (List.mem_of_getElem? (i := 3) rfl)) dX1_layFree_34 ?_
    obtain ⟨h_36, hm⟩ := hm
    refine z_iast hx hb hj hK hP hS zI_29 h_36 dX1_layFree_36 (fun H locs hP hS => ?_)
    obtain ⟨S_36, eS_36⟩ : ∃ z : ZS, z = zu S_28 29 (t0).toNatClampNeg (1000000 : Int32) := ⟨_, rfl⟩
    rw [← eS_36] at hP
    have hm := hm S_36 eS_36
    refine lv_aload_n hx hb dX1_layFree_37 rfl (lv_at hl 1 rfl) ?_
    refine zg_1_cost hx hb hts i1 hown hK hP (hts _ (List.mem_of_getElem? (i := 4) rfl)) dX1_layFree_38 ?_
    refine lv_iload_n hx hb dX1_layFree_41 rfl (lv_at hl 0 rfl) ?_
    refine lv_iconst (v := (0 : Int32)) hx hb dX1_layFree_42 (by decide) ?_
    obtain ⟨h_43, hm⟩ := hm
    refine z_iast hx hb hj hK hP hS zI_30 h_43 dX1_layFree_43 (fun H locs hP hS => ?_)
    obtain ⟨S_43, eS_43⟩ : ∃ z : ZS, z = zu S_36 30 (t0).toNatClampNeg (0 : Int32) := ⟨_, rfl⟩
    rw [← eS_43] at hP
    have hm := hm S_43 eS_43
    refine lv_aload_n hx hb dX1_layFree_44 rfl (lv_at hl 1 rfl) ?_
    refine zg_1_weight hx hb hts i1 hown hK hP (hts _ (List.mem_of_getElem? (i := 5) rfl)) dX1_layFree_45 ?_
    refine lv_iload_n hx hb dX1_layFree_48 rfl (lv_at hl 0 rfl) ?_
    refine lv_iconst (v := (0 : Int32)) hx hb dX1_layFree_49 (by decide) ?_
    obtain ⟨h_50, hm⟩ := hm
    refine z_iast hx hb hj hK hP hS zI_32 h_50 dX1_layFree_50 (fun H locs hP hS => ?_)
    obtain ⟨S_50, eS_50⟩ : ∃ z : ZS, z = zu S_43 32 (t0).toNatClampNeg (0 : Int32) := ⟨_, rfl⟩
    rw [← eS_50] at hP
    have hm := hm S_50 eS_50
    refine lv_aload_n hx hb dX1_layFree_51 rfl (lv_at hl 1 rfl) ?_
    refine zg_1_amount hx hb hts i1 hown hK hP (hts _ (List.mem_of_getElem? (i := 6) rfl)) dX1_layFree_52 ?_
    refine lv_iload_n hx hb dX1_layFree_55 rfl (lv_at hl 0 rfl) ?_
    refine lv_iconst (v := (0 : Int32)) hx hb dX1_layFree_56 (by decide) ?_
    obtain ⟨h_57, hm⟩ := hm
    refine z_iast hx hb hj hK hP hS zI_31 h_57 dX1_layFree_57 (fun H locs hP hS => ?_)
    obtain ⟨S_57, eS_57⟩ : ∃ z : ZS, z = zu S_50 31 (t0).toNatClampNeg (0 : Int32) := ⟨_, rfl⟩
    rw [← eS_57] at hP
    have hm := hm S_57 eS_57
    exact z_retv hx hb hr hlocks hP hS hm dX1_layFree_58
  unfold X1_layFree at hm
  refine lv_iload_n hx hb dX1_layFree_0 rfl (lv_at hl 2 rfl) ?_
  refine lv_if_le (tgt := 14) hx hb dX1_layFree_1 (by decide) (fun c_1 => ?_) (fun c_1 => ?_)
  · have hm := hm.1 c_1
    refine lv_aload_n hx hb dX1_layFree_14 rfl (lv_at hl 0 rfl) ?_
    refine lv_bipush (v := (8 : Int32)) hx hb dX1_layFree_15 (by decide) ?_
    refine lv_iload_n hx hb dX1_layFree_17 rfl (lv_at hl 1 rfl) ?_
    refine z_cVi (As := [.int (8 : Int32), .int y1]) (rest := []) hF hK hP hS zO_3 rfl rfl (c_X1_addArc l D k a hj (8 : Int32) y1 S _ hm _) (cwV 2 hts gX1_layFree_X1_addArc rfl rfl rfl (by decide +kernel) ⟨Nat.le_of_ble_eq_true rfl, Nat.le_of_ble_eq_true rfl⟩) rfl hl.1 rfl (Nat.le_of_ble_eq_true rfl) dX1_layFree_18 ⟨Nat.zero_le _, Nat.zero_le _⟩ (fun r_18 S_18 H locs hm hP hS => ?_)
    exact b21 r_18 S_18 _ _ _ hm hP hS (lv_sub hl [0] rfl)
  · have hm := hm.2 c_1
    refine lv_aload_n hx hb dX1_layFree_4 rfl (lv_at hl 0 rfl) ?_
    refine lv_iload_n hx hb dX1_layFree_5 rfl (lv_at hl 1 rfl) ?_
    refine lv_bipush (v := (8 : Int32)) hx hb dX1_layFree_6 (by decide) ?_
    refine z_cVi (As := [.int y1, .int (8 : Int32)]) (rest := []) hF hK hP hS zO_3 rfl rfl (c_X1_addArc l D k a hj y1 (8 : Int32) S _ hm _) (cwV 2 hts gX1_layFree_X1_addArc rfl rfl rfl (by decide +kernel) ⟨Nat.le_of_ble_eq_true rfl, Nat.le_of_ble_eq_true rfl⟩) rfl hl.1 rfl (Nat.le_of_ble_eq_true rfl) dX1_layFree_8 ⟨Nat.zero_le _, Nat.zero_le _⟩ (fun r_8 S_8 H locs hm hP hS => ?_)
    refine lv_goto (tgt := 21) hx hb dX1_layFree_11 (by decide) ?_
    exact b21 r_8 S_8 _ _ _ hm hP hS (lv_sub hl [0] rfl)

abbrev rm_X1_lay : Room := { frames := 2, cells := 0, slots := 0, locals := 50 }
def X1_lay_b117 (S : ZS) (Q : ZS → Prop) : Prop :=
  Q S
def X1_lay_b111 (x3 : Int32) (S : ZS) (Q : ZS → Prop) (k86 : Int32 × ZS → Prop) : Prop :=
  ∀ x3_111 : Int32, x3_111 = x3 + (1 : Int32) → k86 (x3_111, S)
def X1_lay_B86 (x3 : Int32) (S : ZS) (Q : ZS → Prop) (k86 : Int32 × ZS → Prop) : Prop :=
  ((S.1 1 1) ≤ x3 → X1_lay_b117 S Q) ∧ (¬ (S.1 1 1) ≤ x3 → vp_in x3 8 ∧ ((S.1 11 (x3).toNatClampNeg) = 0 → vp_in x3 8 ∧ X1_layFree x3 (S.1 23 (x3).toNatClampNeg) S (fun S_108 => X1_lay_b111 x3 S_108 Q k86)) ∧ (¬ (S.1 11 (x3).toNatClampNeg) = 0 → X1_lay_b111 x3 S Q k86))
def X1_lay_L86 (Q : ZS → Prop) : (Int32 × ZS) → ((Int32 × ZS) → Prop) → Prop := fun st k86 => X1_lay_B86 st.1 st.2 Q k86
def X1_lay_b84 (S : ZS) (Q : ZS → Prop) : Prop :=
  zl (X1_lay_L86 Q) ((0 : Int32), S)
def X1_lay_B63 (x3 : Int32) (S : ZS) (Q : ZS → Prop) (k63 : Int32 × ZS → Prop) : Prop :=
  ((S.1 1 0) ≤ x3 → X1_lay_b84 S Q) ∧ (¬ (S.1 1 0) ≤ x3 → X1_layColumn x3 S (fun S_75 => ∀ x3_78 : Int32, x3_78 = x3 + (1 : Int32) → k63 (x3_78, S_75)))
def X1_lay_L63 (Q : ZS → Prop) : (Int32 × ZS) → ((Int32 × ZS) → Prop) → Prop := fun st k63 => X1_lay_B63 st.1 st.2 Q k63
def X1_lay_b56 (S : ZS) (Q : ZS → Prop) : Prop :=
  ∀ S_58 : ZS, S_58 = zu S 3 0 (0 : Int32) → zl (X1_lay_L63 Q) ((0 : Int32), S_58)
def X1_lay_B10 (x3 : Int32) (S : ZS) (Q : ZS → Prop) (k10 : Int32 × ZS → Prop) : Prop :=
  ((S.1 1 1) ≤ x3 → X1_lay_b56 S Q) ∧ (¬ (S.1 1 1) ≤ x3 → vp_in x3 8 ∧ vp_in x3 8 ∧ vp_in x3 9 ∧ ∀ S_33 : ZS, S_33 = zu S 33 (x3).toNatClampNeg ((S.1 12 (x3).toNatClampNeg) * (S.1 23 (x3).toNatClampNeg)) → vp_in (8 : Int32) 9 ∧ vp_in x3 9 ∧ vp_in (8 : Int32) 9 ∧ ∀ S_49 : ZS, S_49 = zu S_33 33 ((8 : Int32)).toNatClampNeg ((S_33.1 33 ((8 : Int32)).toNatClampNeg) - (S_33.1 33 (x3).toNatClampNeg)) → ∀ x3_50 : Int32, x3_50 = x3 + (1 : Int32) → k10 (x3_50, S_49))
def X1_lay_L10 (Q : ZS → Prop) : (Int32 × ZS) → ((Int32 × ZS) → Prop) → Prop := fun st k10 => X1_lay_B10 st.1 st.2 Q k10
def X1_lay (S : ZS) (Q : ZS → Prop) : Prop :=
  J7_fill_53178 33 9 (0 : Int32) S (fun S_5 => zl (X1_lay_L10 Q) ((0 : Int32), S_5))
set_option maxHeartbeats 4000000 in
set_option maxRecDepth 100000 in
theorem c_X1_lay (l : Launch) (D : va_G) (k : Nat → ClassId) (a : Nat → Nat) (hj : zDj a) (S : ZS) (Q : ZS → Prop) (hm : X1_lay S Q) (sz : Nat) : Met l yX1_lay wsX1_lay rm_X1_lay (zPc D k a [.ref (a 3), .ref (a 1), .ref (a 23)] S sz) (va_Qv Q (zB D k a) (zA a sz)) 0 0 (zA a sz) := by
  refine Met.ofW (cc := cX1_lay) (maxL := 4) (ret := none) (by decide) rfl ?_
  intro p e s m args below meth c s₁ B hml hv
  obtain ⟨rfl, hsz, hP, hK⟩ := hv
  have hx := B.exec
  have hb := B.bytes
  have hr := B.returns
  have hts := atoms_spec (ws := wsX1_lay) B.pre
  have hown : s.vm.findClass RX1 = some m.cls := findClass_of_methodNamed B.named
  have hlocks := B.notSynchronized
  subst hsz
  have hS : va_S (zA a s.heap.size) s.heap s.heap [] := va_S.rf
  have hF : CallFix p m c cX1_lay 4 s _ wsX1_lay RX1 := ⟨hx, hb, hml, hown, hts⟩
  have i1 : ∀ w ∈ wsX10, w ∈ wsX1_lay := fun _ h => (List.mem_cons_of_mem _ (List.mem_append_left _ (List.mem_append_right _ h)))
  have i5 : ∀ w ∈ wsX50, w ∈ wsX1_lay := fun _ h => (List.mem_cons_of_mem _ (List.mem_append_right _ h))
  have hl := lv_entry ([.ref (a 3), .ref (a 1), .ref (a 23)]) (n := 4) (Nat.le_of_ble_eq_true rfl)
  rw [lg_entry_eq]
  generalize (lg_sl ([.ref (a 3), .ref (a 1), .ref (a 23)]) ++ List.replicate (4 - (lg_sl ([.ref (a 3), .ref (a 1), .ref (a 23)])).length) Slot.unset).toArray = ls at hl ⊢
  have hl : lv_has ls 4 [(0, .ref (a 3)), (1, .ref (a 1)), (2, .ref (a 23))] := hl
  have b56 : ∀ (S : ZS) (H : Heap) (locs : List Loc) (ls : Array Slot), X1_lay_b56 S Q → va_P D vwCl (zWS k a S) H → va_S (zA a s.heap.size) s.heap H locs → lv_has ls 4 [(0, .ref (a 3)), (1, .ref (a 1)), (2, .ref (a 23))] → zWv p l e (headSpec wsX1_lay rm_X1_lay).room s m ([.ref (a 3), .ref (a 1), .ref (a 23)] : List Value) below meth c D k a Q H locs (F0 m 56 ls []) := by
    intro S H locs ls hm hP hS hl
    unfold X1_lay_b56 at hm
    have b84 : ∀ (S : ZS) (H : Heap) (locs : List Loc) (ls : Array Slot), X1_lay_b84 S Q → va_P D vwCl (zWS k a S) H → va_S (zA a s.heap.size) s.heap H locs → lv_has ls 4 [(0, .ref (a 3)), (1, .ref (a 1)), (2, .ref (a 23))] → zWv p l e (headSpec wsX1_lay rm_X1_lay).room s m ([.ref (a 3), .ref (a 1), .ref (a 23)] : List Value) below meth c D k a Q H locs (F0 m 84 ls []) := by
      intro S H locs ls hm hP hS hl
      unfold X1_lay_b84 at hm
      have b117 : ∀ (S : ZS) (H : Heap) (locs : List Loc) (ls : Array Slot), X1_lay_b117 S Q → va_P D vwCl (zWS k a S) H → va_S (zA a s.heap.size) s.heap H locs → lv_has ls 4 [(0, .ref (a 3)), (1, .ref (a 1)), (2, .ref (a 23))] → zWv p l e (headSpec wsX1_lay rm_X1_lay).room s m ([.ref (a 3), .ref (a 1), .ref (a 23)] : List Value) below meth c D k a Q H locs (F0 m 117 ls []) := by
        intro S H locs ls hm hP hS hl
        unfold X1_lay_b117 at hm
        exact z_retv hx hb hr hlocks hP hS hm dX1_lay_117
      have L86 : ∀ (n : Nat) (x3 : Int32) (S : ZS) (H : Heap) (locs : List Loc) (ls : Array Slot), zn (X1_lay_L86 Q) n (x3, S) → va_P D vwCl (zWS k a S) H → va_S (zA a s.heap.size) s.heap H locs → lv_has ls 4 [(0, .ref (a 3)), (1, .ref (a 1)), (2, .ref (a 23)), (3, .int x3)] → zWv p l e (headSpec wsX1_lay rm_X1_lay).room s m ([.ref (a 3), .ref (a 1), .ref (a 23)] : List Value) below meth c D k a Q H locs (F0 m 86 ls []) := by
        intro n
        induction n with
        | zero =>
          intro x3 S H locs ls hm
          exact hm.elim
        | succ n ih86 =>
          intro x3 S H locs ls hm hP hS hl
          have hm : X1_lay_B86 x3 S Q (zn (X1_lay_L86 Q) n) := hm
          generalize zn (X1_lay_L86 Q) n = k86 at hm ih86
          unfold X1_lay_B86 at hm
          have b111 : ∀ (x3 : Int32) (S : ZS) (H : Heap) (locs : List Loc) (ls : Array Slot), X1_lay_b111 x3 S Q k86 → va_P D vwCl (zWS k a S) H → va_S (zA a s.heap.size) s.heap H locs → lv_has ls 4 [(0, .ref (a 3)), (1, .ref (a 1)), (2, .ref (a 23)), (3, .int x3)] → zWv p l e (headSpec wsX1_lay rm_X1_lay).room s m ([.ref (a 3), .ref (a 1), .ref (a 23)] : List Value) below meth c D k a Q H locs (F0 m 111 ls []) := by
            intro x3 S H locs ls hm hP hS hl
            unfold X1_lay_b111 at hm
            obtain ⟨x3_111, ex3_111⟩ : ∃ y : Int32, y = x3 + (1 : Int32) := ⟨_, rfl⟩
            have hm := hm x3_111 ex3_111
            refine lv_iinc (v := x3_111) (lv' := [(3, .int x3_111), (0, .ref (a 3)), (1, .ref (a 1)), (2, .ref (a 23))]) hx hb dX1_lay_111 hl (k := 3) rfl (by rw [ex3_111]; rfl) (by decide) rfl (fun ls hl => ?_)
            refine lv_goto (tgt := 86) hx hb dX1_lay_114 (by decide) ?_
            exact ih86 x3_111 S _ _ _ hm hP hS (lv_sub hl [1, 2, 3, 0] rfl)
          refine lv_iload_n hx hb dX1_lay_86 rfl (lv_at hl 3 rfl) ?_
          refine lv_aload_n hx hb dX1_lay_87 rfl (lv_at hl 1 rfl) ?_
          refine zg_5_rows hx hb hts i5 hown hK hP (hts _ (List.mem_of_getElem? (i := 2) rfl)) dX1_lay_88 ?_
          refine lv_icmp_ge (tgt := 117) hx hb dX1_lay_91 (by decide) (fun c_91 => ?_) (fun c_91 => ?_)
          · have hm := hm.1 c_91
            exact b117  S _ _ _ hm hP hS (lv_sub hl [0, 1, 2] rfl)
          · have hm := hm.2 c_91
            refine lv_aload_n hx hb dX1_lay_94 rfl (lv_at hl 1 rfl) ?_
            refine zg_5_kind hx hb hts i5 hown hK hP (hts _ (List.mem_of_getElem? (i := 6) rfl)) dX1_lay_95 ?_
            refine lv_iload_n hx hb dX1_lay_98 rfl (lv_at hl 3 rfl) ?_
            obtain ⟨h_99, hm⟩ := hm
            refine z_iald hx hb hK hP zI_11 h_99 dX1_lay_99 ?_
            refine lv_if_ne (tgt := 111) hx hb dX1_lay_100 (by decide) (fun c_100 => ?_) (fun c_100 => ?_)
            · have hm := hm.2 c_100
              exact b111 x3 S _ _ _ hm hP hS (lv_sub hl [0, 1, 2, 3] rfl)
            · have hm := hm.1 c_100
              refine lv_aload_n hx hb dX1_lay_103 rfl (lv_at hl 0 rfl) ?_
              refine lv_iload_n hx hb dX1_lay_104 rfl (lv_at hl 3 rfl) ?_
              refine lv_aload_n hx hb dX1_lay_105 rfl (lv_at hl 2 rfl) ?_
              refine lv_iload_n hx hb dX1_lay_106 rfl (lv_at hl 3 rfl) ?_
              obtain ⟨h_107, hm⟩ := hm
              refine z_iald hx hb hK hP zI_23 h_107 dX1_lay_107 ?_
              refine z_cVv (As := [.int x3, .int (S.1 23 (x3).toNatClampNeg)]) (rest := []) hF hK hP hS zO_3 rfl rfl (c_X1_layFree l D k a hj x3 (S.1 23 (x3).toNatClampNeg) S _ hm _) (cwV 2 hts gX1_lay_X1_layFree rfl rfl rfl (by decide +kernel) ⟨Nat.le_of_ble_eq_true rfl, Nat.le_of_ble_eq_true rfl⟩) rfl hl.1 rfl (Nat.le_of_ble_eq_true rfl) dX1_lay_108 ⟨Nat.zero_le _, Nat.zero_le _⟩ (fun S_108 H locs hm hP hS => ?_)
              exact b111 x3 S_108 _ _ _ hm hP hS (lv_sub hl [0, 1, 2, 3] rfl)
      refine lv_iconst (v := (0 : Int32)) hx hb dX1_lay_84 (by decide) ?_
      refine lv_istore_n (lv' := [(3, .int (0 : Int32)), (0, .ref (a 3)), (1, .ref (a 1)), (2, .ref (a 23))]) hx hb dX1_lay_85 rfl hl (by decide) rfl (fun ls hl => ?_)
      obtain ⟨n86, hm⟩ := hm
      exact L86 n86 (0 : Int32) S _ _ _ hm hP hS (lv_sub hl [1, 2, 3, 0] rfl)
    have L63 : ∀ (n : Nat) (x3 : Int32) (S : ZS) (H : Heap) (locs : List Loc) (ls : Array Slot), zn (X1_lay_L63 Q) n (x3, S) → va_P D vwCl (zWS k a S) H → va_S (zA a s.heap.size) s.heap H locs → lv_has ls 4 [(0, .ref (a 3)), (1, .ref (a 1)), (2, .ref (a 23)), (3, .int x3)] → zWv p l e (headSpec wsX1_lay rm_X1_lay).room s m ([.ref (a 3), .ref (a 1), .ref (a 23)] : List Value) below meth c D k a Q H locs (F0 m 63 ls []) := by
      intro n
      induction n with
      | zero =>
        intro x3 S H locs ls hm
        exact hm.elim
      | succ n ih63 =>
        intro x3 S H locs ls hm hP hS hl
        have hm : X1_lay_B63 x3 S Q (zn (X1_lay_L63 Q) n) := hm
        generalize zn (X1_lay_L63 Q) n = k63 at hm ih63
        unfold X1_lay_B63 at hm
        refine lv_iload_n hx hb dX1_lay_63 rfl (lv_at hl 3 rfl) ?_
        refine lv_aload_n hx hb dX1_lay_64 rfl (lv_at hl 1 rfl) ?_
        refine zg_5_columns hx hb hts i5 hown hK hP (hts _ (List.mem_of_getElem? (i := 5) rfl)) dX1_lay_65 ?_
        refine lv_icmp_ge (tgt := 84) hx hb dX1_lay_68 (by decide) (fun c_68 => ?_) (fun c_68 => ?_)
        · have hm := hm.1 c_68
          exact b84  S _ _ _ hm hP hS (lv_sub hl [0, 1, 2] rfl)
        · have hm := hm.2 c_68
          refine lv_aload_n hx hb dX1_lay_71 rfl (lv_at hl 0 rfl) ?_
          refine lv_aload_n hx hb dX1_lay_72 rfl (lv_at hl 1 rfl) ?_
          refine lv_aload_n hx hb dX1_lay_73 rfl (lv_at hl 2 rfl) ?_
          refine lv_iload_n hx hb dX1_lay_74 rfl (lv_at hl 3 rfl) ?_
          refine z_cVv (As := [.ref (a 1), .ref (a 23), .int x3]) (rest := []) hF hK hP hS zO_3 rfl rfl (c_X1_layColumn l D k a hj x3 S _ hm _) (cwV 3 hts gX1_lay_X1_layColumn rfl rfl rfl (by decide +kernel) ⟨Nat.le_of_ble_eq_true rfl, Nat.le_of_ble_eq_true rfl⟩) rfl hl.1 rfl (Nat.le_of_ble_eq_true rfl) dX1_lay_75 ⟨Nat.zero_le _, Nat.zero_le _⟩ (fun S_75 H locs hm hP hS => ?_)
          obtain ⟨x3_78, ex3_78⟩ : ∃ y : Int32, y = x3 + (1 : Int32) := ⟨_, rfl⟩
          have hm := hm x3_78 ex3_78
          refine lv_iinc (v := x3_78) (lv' := [(3, .int x3_78), (0, .ref (a 3)), (1, .ref (a 1)), (2, .ref (a 23))]) hx hb dX1_lay_78 hl (k := 3) rfl (by rw [ex3_78]; rfl) (by decide) rfl (fun ls hl => ?_)
          refine lv_goto (tgt := 63) hx hb dX1_lay_81 (by decide) ?_
          exact ih63 x3_78 S_75 _ _ _ hm hP hS (lv_sub hl [1, 2, 3, 0] rfl)
    refine lv_aload_n hx hb dX1_lay_56 rfl (lv_at hl 0 rfl) ?_
    refine lv_iconst (v := (0 : Int32)) hx hb dX1_lay_57 (by decide) ?_
    refine zp_1_arcs hx hb hts i1 hown hj hK hP hS (hts _ (List.mem_of_getElem? (i := 4) rfl)) dX1_lay_58 (fun H locs hP hS => ?_)
    obtain ⟨S_58, eS_58⟩ : ∃ z : ZS, z = zu S 3 0 (0 : Int32) := ⟨_, rfl⟩
    rw [← eS_58] at hP
    have hm := hm S_58 eS_58
    refine lv_iconst (v := (0 : Int32)) hx hb dX1_lay_61 (by decide) ?_
    refine lv_istore_n (lv' := [(3, .int (0 : Int32)), (0, .ref (a 3)), (1, .ref (a 1)), (2, .ref (a 23))]) hx hb dX1_lay_62 rfl hl (by decide) rfl (fun ls hl => ?_)
    obtain ⟨n63, hm⟩ := hm
    exact L63 n63 (0 : Int32) S_58 _ _ _ hm hP hS (lv_sub hl [1, 2, 3, 0] rfl)
  have L10 : ∀ (n : Nat) (x3 : Int32) (S : ZS) (H : Heap) (locs : List Loc) (ls : Array Slot), zn (X1_lay_L10 Q) n (x3, S) → va_P D vwCl (zWS k a S) H → va_S (zA a s.heap.size) s.heap H locs → lv_has ls 4 [(0, .ref (a 3)), (1, .ref (a 1)), (2, .ref (a 23)), (3, .int x3)] → zWv p l e (headSpec wsX1_lay rm_X1_lay).room s m ([.ref (a 3), .ref (a 1), .ref (a 23)] : List Value) below meth c D k a Q H locs (F0 m 10 ls []) := by
    intro n
    induction n with
    | zero =>
      intro x3 S H locs ls hm
      exact hm.elim
    | succ n ih10 =>
      intro x3 S H locs ls hm hP hS hl
      have hm : X1_lay_B10 x3 S Q (zn (X1_lay_L10 Q) n) := hm
      generalize zn (X1_lay_L10 Q) n = k10 at hm ih10
      unfold X1_lay_B10 at hm
      refine lv_iload_n hx hb dX1_lay_10 rfl (lv_at hl 3 rfl) ?_
      refine lv_aload_n hx hb dX1_lay_11 rfl (lv_at hl 1 rfl) ?_
      refine zg_5_rows hx hb hts i5 hown hK hP (hts _ (List.mem_of_getElem? (i := 2) rfl)) dX1_lay_12 ?_
      refine lv_icmp_ge (tgt := 56) hx hb dX1_lay_15 (by decide) (fun c_15 => ?_) (fun c_15 => ?_)
      · have hm := hm.1 c_15
        exact b56  S _ _ _ hm hP hS (lv_sub hl [0, 1, 2] rfl)
      · have hm := hm.2 c_15
        refine lv_aload_n hx hb dX1_lay_18 rfl (lv_at hl 0 rfl) ?_
        refine zg_1_need hx hb hts i1 hown hK hP (hts _ (List.mem_of_getElem? (i := 1) rfl)) dX1_lay_19 ?_
        refine lv_iload_n hx hb dX1_lay_22 rfl (lv_at hl 3 rfl) ?_
        refine lv_aload_n hx hb dX1_lay_23 rfl (lv_at hl 1 rfl) ?_
        refine zg_5_right hx hb hts i5 hown hK hP (hts _ (List.mem_of_getElem? (i := 3) rfl)) dX1_lay_24 ?_
        refine lv_iload_n hx hb dX1_lay_27 rfl (lv_at hl 3 rfl) ?_
        obtain ⟨h_28, hm⟩ := hm
        refine z_iald hx hb hK hP zI_12 h_28 dX1_lay_28 ?_
        refine lv_aload_n hx hb dX1_lay_29 rfl (lv_at hl 2 rfl) ?_
        refine lv_iload_n hx hb dX1_lay_30 rfl (lv_at hl 3 rfl) ?_
        obtain ⟨h_31, hm⟩ := hm
        refine z_iald hx hb hK hP zI_23 h_31 dX1_lay_31 ?_
        refine lv_imul hx hb dX1_lay_32 ?_
        obtain ⟨h_33, hm⟩ := hm
        refine z_iast hx hb hj hK hP hS zI_33 h_33 dX1_lay_33 (fun H locs hP hS => ?_)
        obtain ⟨S_33, eS_33⟩ : ∃ z : ZS, z = zu S 33 (x3).toNatClampNeg ((S.1 12 (x3).toNatClampNeg) * (S.1 23 (x3).toNatClampNeg)) := ⟨_, rfl⟩
        rw [← eS_33] at hP
        have hm := hm S_33 eS_33
        refine lv_aload_n hx hb dX1_lay_34 rfl (lv_at hl 0 rfl) ?_
        refine zg_1_need hx hb hts i1 hown hK hP (hts _ (List.mem_of_getElem? (i := 1) rfl)) dX1_lay_35 ?_
        refine lv_bipush (v := (8 : Int32)) hx hb dX1_lay_38 (by decide) ?_
        refine lv_dup2_11 hx hb dX1_lay_40 rfl rfl ?_
        obtain ⟨h_41, hm⟩ := hm
        refine z_iald hx hb hK hP zI_33 h_41 dX1_lay_41 ?_
        refine lv_aload_n hx hb dX1_lay_42 rfl (lv_at hl 0 rfl) ?_
        refine zg_1_need hx hb hts i1 hown hK hP (hts _ (List.mem_of_getElem? (i := 1) rfl)) dX1_lay_43 ?_
        refine lv_iload_n hx hb dX1_lay_46 rfl (lv_at hl 3 rfl) ?_
        obtain ⟨h_47, hm⟩ := hm
        refine z_iald hx hb hK hP zI_33 h_47 dX1_lay_47 ?_
        refine lv_isub hx hb dX1_lay_48 ?_
        obtain ⟨h_49, hm⟩ := hm
        refine z_iast hx hb hj hK hP hS zI_33 h_49 dX1_lay_49 (fun H locs hP hS => ?_)
        obtain ⟨S_49, eS_49⟩ : ∃ z : ZS, z = zu S_33 33 ((8 : Int32)).toNatClampNeg ((S_33.1 33 ((8 : Int32)).toNatClampNeg) - (S_33.1 33 (x3).toNatClampNeg)) := ⟨_, rfl⟩
        rw [← eS_49] at hP
        have hm := hm S_49 eS_49
        obtain ⟨x3_50, ex3_50⟩ : ∃ y : Int32, y = x3 + (1 : Int32) := ⟨_, rfl⟩
        have hm := hm x3_50 ex3_50
        refine lv_iinc (v := x3_50) (lv' := [(3, .int x3_50), (0, .ref (a 3)), (1, .ref (a 1)), (2, .ref (a 23))]) hx hb dX1_lay_50 hl (k := 3) rfl (by rw [ex3_50]; rfl) (by decide) rfl (fun ls hl => ?_)
        refine lv_goto (tgt := 10) hx hb dX1_lay_53 (by decide) ?_
        exact ih10 x3_50 S_49 _ _ _ hm hP hS (lv_sub hl [1, 2, 3, 0] rfl)
  unfold X1_lay at hm
  refine lv_aload_n hx hb dX1_lay_0 rfl (lv_at hl 0 rfl) ?_
  refine zg_1_need hx hb hts i1 hown hK hP (hts _ (List.mem_of_getElem? (i := 1) rfl)) dX1_lay_1 ?_
  refine lv_iconst (v := (0 : Int32)) hx hb dX1_lay_4 (by decide) ?_
  refine z_cSv (As := [.ref (a 33), .int (0 : Int32)]) (rest := []) hF hK hP hS (c_J7_fill_53178 l D k a hj 33 9 zI_33 (0 : Int32) S _ hm _) (va_cwS 2 hts gX1_lay_J7_fill_53178 rfl rfl rfl (by decide +kernel) ⟨Nat.le_of_ble_eq_true rfl, Nat.le_of_ble_eq_true rfl⟩) rfl hl.1 rfl (Nat.le_of_ble_eq_true rfl) dX1_lay_5 ⟨Nat.zero_le _, Nat.zero_le _⟩ (fun S_5 H locs hm hP hS => ?_)
  refine lv_iconst (v := (0 : Int32)) hx hb dX1_lay_8 (by decide) ?_
  refine lv_istore_n (lv' := [(3, .int (0 : Int32)), (0, .ref (a 3)), (1, .ref (a 1)), (2, .ref (a 23))]) hx hb dX1_lay_9 rfl hl (by decide) rfl (fun ls hl => ?_)
  obtain ⟨n10, hm⟩ := hm
  exact L10 n10 (0 : Int32) S_5 _ _ _ hm hP hS (lv_sub hl [1, 2, 3, 0] rfl)

abbrev rm_X1_hasNeed : Room := { frames := 0, cells := 0, slots := 0, locals := 0 }
def X1_hasNeed_b25 (S : ZS) (Q : Int32 → ZS → Prop) : Prop :=
  zbit (0 : Int32) ∧ Q (0 : Int32) S
def X1_hasNeed_b17 (S : ZS) (Q : Int32 → ZS → Prop) : Prop :=
  zbit (1 : Int32) ∧ Q (1 : Int32) S
def X1_hasNeed_B2 (x1 : Int32) (S : ZS) (Q : Int32 → ZS → Prop) (k2 : Int32 × ZS → Prop) : Prop :=
  ((9 : Int32) ≤ x1 → X1_hasNeed_b25 S Q) ∧ (¬ (9 : Int32) ≤ x1 → vp_in x1 9 ∧ ((S.1 33 (x1).toNatClampNeg) = 0 → ∀ x1_19 : Int32, x1_19 = x1 + (1 : Int32) → k2 (x1_19, S)) ∧ (¬ (S.1 33 (x1).toNatClampNeg) = 0 → X1_hasNeed_b17 S Q))
def X1_hasNeed_L2 (Q : Int32 → ZS → Prop) : (Int32 × ZS) → ((Int32 × ZS) → Prop) → Prop := fun st k2 => X1_hasNeed_B2 st.1 st.2 Q k2
def X1_hasNeed (S : ZS) (Q : Int32 → ZS → Prop) : Prop :=
  zl (X1_hasNeed_L2 Q) ((0 : Int32), S)
set_option maxHeartbeats 4000000 in
set_option maxRecDepth 100000 in
theorem c_X1_hasNeed (l : Launch) (D : va_G) (k : Nat → ClassId) (a : Nat → Nat) (hj : zDj a) (S : ZS) (Q : Int32 → ZS → Prop) (hm : X1_hasNeed S Q) (sz : Nat) : Met l yX1_hasNeed wsX1_hasNeed rm_X1_hasNeed (zPc D k a [.ref (a 3)] S sz) (va_Qi Q (zB D k a) (zA a sz)) 0 0 (zA a sz) := by
  refine Met.ofW (cc := cX1_hasNeed) (maxL := 2) (ret := (some .boolean)) (by decide) rfl ?_
  intro p e s m args below meth c s₁ B hml hv
  obtain ⟨rfl, hsz, hP, hK⟩ := hv
  have hx := B.exec
  have hb := B.bytes
  have hr := B.returns
  have hts := atoms_spec (ws := wsX1_hasNeed) B.pre
  have hown : s.vm.findClass RX1 = some m.cls := findClass_of_methodNamed B.named
  have hlocks := B.notSynchronized
  subst hsz
  have hS : va_S (zA a s.heap.size) s.heap s.heap [] := va_S.rf
  have hF : CallFix p m c cX1_hasNeed 2 s _ wsX1_hasNeed RX1 := ⟨hx, hb, hml, hown, hts⟩
  have i1 : ∀ w ∈ wsX10, w ∈ wsX1_hasNeed := fun _ h => (List.mem_cons_of_mem _ (List.mem_append_right _ h))
  have hl := lv_entry ([.ref (a 3)]) (n := 2) (Nat.le_of_ble_eq_true rfl)
  rw [lg_entry_eq]
  generalize (lg_sl ([.ref (a 3)]) ++ List.replicate (2 - (lg_sl ([.ref (a 3)])).length) Slot.unset).toArray = ls at hl ⊢
  have hl : lv_has ls 2 [(0, .ref (a 3))] := hl
  have b25 : ∀ (S : ZS) (H : Heap) (locs : List Loc) (ls : Array Slot), X1_hasNeed_b25 S Q → va_P D vwCl (zWS k a S) H → va_S (zA a s.heap.size) s.heap H locs → lv_has ls 2 [(0, .ref (a 3))] → zWi p l e (headSpec wsX1_hasNeed rm_X1_hasNeed).room s m ([.ref (a 3)] : List Value) below meth c D k a Q H locs (F0 m 25 ls []) := by
    intro S H locs ls hm hP hS hl
    unfold X1_hasNeed_b25 at hm
    refine lv_iconst (v := (0 : Int32)) hx hb dX1_hasNeed_25 (by decide) ?_
    exact z_retz hx hb hr hlocks hP hS hm dX1_hasNeed_26
  have b17 : ∀ (S : ZS) (H : Heap) (locs : List Loc) (ls : Array Slot), X1_hasNeed_b17 S Q → va_P D vwCl (zWS k a S) H → va_S (zA a s.heap.size) s.heap H locs → lv_has ls 2 [(0, .ref (a 3))] → zWi p l e (headSpec wsX1_hasNeed rm_X1_hasNeed).room s m ([.ref (a 3)] : List Value) below meth c D k a Q H locs (F0 m 17 ls []) := by
    intro S H locs ls hm hP hS hl
    unfold X1_hasNeed_b17 at hm
    refine lv_iconst (v := (1 : Int32)) hx hb dX1_hasNeed_17 (by decide) ?_
    exact z_retz hx hb hr hlocks hP hS hm dX1_hasNeed_18
  have L2 : ∀ (n : Nat) (x1 : Int32) (S : ZS) (H : Heap) (locs : List Loc) (ls : Array Slot), zn (X1_hasNeed_L2 Q) n (x1, S) → va_P D vwCl (zWS k a S) H → va_S (zA a s.heap.size) s.heap H locs → lv_has ls 2 [(0, .ref (a 3)), (1, .int x1)] → zWi p l e (headSpec wsX1_hasNeed rm_X1_hasNeed).room s m ([.ref (a 3)] : List Value) below meth c D k a Q H locs (F0 m 2 ls []) := by
    intro n
    induction n with
    | zero =>
      intro x1 S H locs ls hm
      exact hm.elim
    | succ n ih2 =>
      intro x1 S H locs ls hm hP hS hl
      have hm : X1_hasNeed_B2 x1 S Q (zn (X1_hasNeed_L2 Q) n) := hm
      generalize zn (X1_hasNeed_L2 Q) n = k2 at hm ih2
      unfold X1_hasNeed_B2 at hm
      refine lv_iload_n hx hb dX1_hasNeed_2 rfl (lv_at hl 1 rfl) ?_
      refine lv_bipush (v := (9 : Int32)) hx hb dX1_hasNeed_3 (by decide) ?_
      refine lv_icmp_ge (tgt := 25) hx hb dX1_hasNeed_5 (by decide) (fun c_5 => ?_) (fun c_5 => ?_)
      · have hm := hm.1 c_5
        exact b25  S _ _ _ hm hP hS (lv_sub hl [0] rfl)
      · have hm := hm.2 c_5
        refine lv_aload_n hx hb dX1_hasNeed_8 rfl (lv_at hl 0 rfl) ?_
        refine zg_1_need hx hb hts i1 hown hK hP (hts _ (List.mem_of_getElem? (i := 1) rfl)) dX1_hasNeed_9 ?_
        refine lv_iload_n hx hb dX1_hasNeed_12 rfl (lv_at hl 1 rfl) ?_
        obtain ⟨h_13, hm⟩ := hm
        refine z_iald hx hb hK hP zI_33 h_13 dX1_hasNeed_13 ?_
        refine lv_if_eq (tgt := 19) hx hb dX1_hasNeed_14 (by decide) (fun c_14 => ?_) (fun c_14 => ?_)
        · have hm := hm.1 c_14
          obtain ⟨x1_19, ex1_19⟩ : ∃ y : Int32, y = x1 + (1 : Int32) := ⟨_, rfl⟩
          have hm := hm x1_19 ex1_19
          refine lv_iinc (v := x1_19) (lv' := [(1, .int x1_19), (0, .ref (a 3))]) hx hb dX1_hasNeed_19 hl (k := 1) rfl (by rw [ex1_19]; rfl) (by decide) rfl (fun ls hl => ?_)
          refine lv_goto (tgt := 2) hx hb dX1_hasNeed_22 (by decide) ?_
          exact ih2 x1_19 S _ _ _ hm hP hS (lv_sub hl [1, 0] rfl)
        · have hm := hm.2 c_14
          exact b17  S _ _ _ hm hP hS (lv_sub hl [0] rfl)
  unfold X1_hasNeed at hm
  refine lv_iconst (v := (0 : Int32)) hx hb dX1_hasNeed_0 (by decide) ?_
  refine lv_istore_n (lv' := [(1, .int (0 : Int32)), (0, .ref (a 3))]) hx hb dX1_hasNeed_1 rfl hl (by decide) rfl (fun ls hl => ?_)
  obtain ⟨n2, hm⟩ := hm
  exact L2 n2 (0 : Int32) S _ _ _ hm hP hS (lv_sub hl [1, 0] rfl)

abbrev rm_X1_comesNearer : Room := { frames := 0, cells := 0, slots := 0, locals := 0 }
def X1_comesNearer_b80 (x1 : Int32) (x2 : Int32) (x4 : Int32) (t0 : Int32) (t1 : Int32) (S : ZS) (Q : Int32 → ZS → Prop) : Prop :=
  ∀ x5_81 : Int32, x5_81 = (t1 + t0) → vp_in x4 9 ∧ (x5_81 < (S.1 34 (x4).toNatClampNeg) → vp_in x4 9 ∧ ∀ S_105 : ZS, S_105 = zu S 34 (x4).toNatClampNeg x5_81 → vp_in x4 9 ∧ ∀ S_113 : ZS, S_113 = zu S_105 35 (x4).toNatClampNeg x1 → zbit x2 ∧ vp_in x4 9 ∧ ∀ S_121 : ZS, S_121 = zu S_113 36 (x4).toNatClampNeg x2 → zbit (1 : Int32) ∧ Q (1 : Int32) S_121) ∧ (¬ x5_81 < (S.1 34 (x4).toNatClampNeg) → zbit (0 : Int32) ∧ Q (0 : Int32) S)
def X1_comesNearer_b39 (x1 : Int32) (x2 : Int32) (x3 : Int32) (t0 : Int32) (S : ZS) (Q : Int32 → ZS → Prop) : Prop :=
  vp_in x3 9 ∧ ((S.1 34 (x3).toNatClampNeg) = (1000000000 : Int32) → zbit (0 : Int32) ∧ Q (0 : Int32) S) ∧ (¬ (S.1 34 (x3).toNatClampNeg) = (1000000000 : Int32) → vp_in x3 9 ∧ (x2 = 0 → vp_in x1 18 ∧ X1_comesNearer_b80 x1 x2 t0 (-(S.1 32 (x1).toNatClampNeg)) (S.1 34 (x3).toNatClampNeg) S Q) ∧ (¬ x2 = 0 → vp_in x1 18 ∧ X1_comesNearer_b80 x1 x2 t0 (S.1 32 (x1).toNatClampNeg) (S.1 34 (x3).toNatClampNeg) S Q))
def X1_comesNearer_b19 (x1 : Int32) (x2 : Int32) (t0 : Int32) (S : ZS) (Q : Int32 → ZS → Prop) : Prop :=
  (x2 = 0 → vp_in x1 18 ∧ X1_comesNearer_b39 x1 x2 t0 (S.1 27 (x1).toNatClampNeg) S Q) ∧ (¬ x2 = 0 → vp_in x1 18 ∧ X1_comesNearer_b39 x1 x2 t0 (S.1 26 (x1).toNatClampNeg) S Q)
def X1_comesNearer (y1 : Int32) (y2 : Int32) (S : ZS) (Q : Int32 → ZS → Prop) : Prop :=
  (y2 = 0 → vp_in y1 18 ∧ X1_comesNearer_b19 y1 y2 (S.1 26 (y1).toNatClampNeg) S Q) ∧ (¬ y2 = 0 → vp_in y1 18 ∧ X1_comesNearer_b19 y1 y2 (S.1 27 (y1).toNatClampNeg) S Q)
set_option maxHeartbeats 4000000 in
set_option maxRecDepth 100000 in
theorem c_X1_comesNearer (l : Launch) (D : va_G) (k : Nat → ClassId) (a : Nat → Nat) (hj : zDj a) (y1 : Int32) (y2 : Int32) (S : ZS) (Q : Int32 → ZS → Prop) (hm : X1_comesNearer y1 y2 S Q) (sz : Nat) : Met l yX1_comesNearer wsX1_comesNearer rm_X1_comesNearer (zPc D k a [.ref (a 3), .int y1, .int y2] S sz) (va_Qi Q (zB D k a) (zA a sz)) 0 0 (zA a sz) := by
  refine Met.ofW (cc := cX1_comesNearer) (maxL := 6) (ret := (some .boolean)) (by decide) rfl ?_
  intro p e s m args below meth c s₁ B hml hv
  obtain ⟨rfl, hsz, hP, hK⟩ := hv
  have hx := B.exec
  have hb := B.bytes
  have hr := B.returns
  have hts := atoms_spec (ws := wsX1_comesNearer) B.pre
  have hown : s.vm.findClass RX1 = some m.cls := findClass_of_methodNamed B.named
  have hlocks := B.notSynchronized
  subst hsz
  have hS : va_S (zA a s.heap.size) s.heap s.heap [] := va_S.rf
  have hF : CallFix p m c cX1_comesNearer 6 s _ wsX1_comesNearer RX1 := ⟨hx, hb, hml, hown, hts⟩
  have i1 : ∀ w ∈ wsX10, w ∈ wsX1_comesNearer := fun _ h => (List.mem_cons_of_mem _ (List.mem_append_right _ h))
  have hl := lv_entry ([.ref (a 3), .int y1, .int y2]) (n := 6) (Nat.le_of_ble_eq_true rfl)
  rw [lg_entry_eq]
  generalize (lg_sl ([.ref (a 3), .int y1, .int y2]) ++ List.replicate (6 - (lg_sl ([.ref (a 3), .int y1, .int y2])).length) Slot.unset).toArray = ls at hl ⊢
  have hl : lv_has ls 6 [(0, .ref (a 3)), (1, .int y1), (2, .int y2)] := hl
  have b19 : ∀ (x1 : Int32) (x2 : Int32) (t0 : Int32) (S : ZS) (H : Heap) (locs : List Loc) (ls : Array Slot), X1_comesNearer_b19 x1 x2 t0 S Q → va_P D vwCl (zWS k a S) H → va_S (zA a s.heap.size) s.heap H locs → lv_has ls 6 [(0, .ref (a 3)), (1, .int x1), (2, .int x2)] → zWi p l e (headSpec wsX1_comesNearer rm_X1_comesNearer).room s m ([.ref (a 3), .int y1, .int y2] : List Value) below meth c D k a Q H locs (F0 m 19 ls [.int t0]) := by
    intro x1 x2 t0 S H locs ls hm hP hS hl
    unfold X1_comesNearer_b19 at hm
    have b39 : ∀ (x1 : Int32) (x2 : Int32) (x3 : Int32) (t0 : Int32) (S : ZS) (H : Heap) (locs : List Loc) (ls : Array Slot), X1_comesNearer_b39 x1 x2 x3 t0 S Q → va_P D vwCl (zWS k a S) H → va_S (zA a s.heap.size) s.heap H locs → lv_has ls 6 [(0, .ref (a 3)), (1, .int x1), (2, .int x2), (3, .int x3)] → zWi p l e (headSpec wsX1_comesNearer rm_X1_comesNearer).room s m ([.ref (a 3), .int y1, .int y2] : List Value) below meth c D k a Q H locs (F0 m 39 ls [.int t0]) := by
      intro x1 x2 x3 t0 S H locs ls hm hP hS hl
      unfold X1_comesNearer_b39 at hm
      have b80 : ∀ (x1 : Int32) (x2 : Int32) (x4 : Int32) (t0 : Int32) (t1 : Int32) (S : ZS) (H : Heap) (locs : List Loc) (ls : Array Slot), X1_comesNearer_b80 x1 x2 x4 t0 t1 S Q → va_P D vwCl (zWS k a S) H → va_S (zA a s.heap.size) s.heap H locs → lv_has ls 6 [(0, .ref (a 3)), (1, .int x1), (2, .int x2), (4, .int x4)] → zWi p l e (headSpec wsX1_comesNearer rm_X1_comesNearer).room s m ([.ref (a 3), .int y1, .int y2] : List Value) below meth c D k a Q H locs (F0 m 80 ls [.int t0, .int t1]) := by
        intro x1 x2 x4 t0 t1 S H locs ls hm hP hS hl
        unfold X1_comesNearer_b80 at hm
        refine lv_iadd hx hb dX1_comesNearer_80 ?_
        refine lv_topi (fun x5_81 ex5_81 => ?_)
        have hm := hm x5_81 ex5_81
        refine lv_istore (lv' := [(5, .int x5_81), (0, .ref (a 3)), (1, .int x1), (2, .int x2), (4, .int x4)]) hx hb dX1_comesNearer_81 hl (by decide) rfl (fun ls hl => ?_)
        refine lv_iload hx hb dX1_comesNearer_83 (lv_at hl 0 rfl) ?_
        refine lv_aload_n hx hb dX1_comesNearer_85 rfl (lv_at hl 1 rfl) ?_
        refine zg_1_distance hx hb hts i1 hown hK hP (hts _ (List.mem_of_getElem? (i := 3) rfl)) dX1_comesNearer_86 ?_
        refine lv_iload hx hb dX1_comesNearer_89 (lv_at hl 4 rfl) ?_
        obtain ⟨h_91, hm⟩ := hm
        refine z_iald hx hb hK hP zI_34 h_91 dX1_comesNearer_91 ?_
        refine lv_icmp_lt (tgt := 97) hx hb dX1_comesNearer_92 (by decide) (fun c_92 => ?_) (fun c_92 => ?_)
        · have hm := hm.1 c_92
          refine lv_aload_n hx hb dX1_comesNearer_97 rfl (lv_at hl 1 rfl) ?_
          refine zg_1_distance hx hb hts i1 hown hK hP (hts _ (List.mem_of_getElem? (i := 3) rfl)) dX1_comesNearer_98 ?_
          refine lv_iload hx hb dX1_comesNearer_101 (lv_at hl 4 rfl) ?_
          refine lv_iload hx hb dX1_comesNearer_103 (lv_at hl 0 rfl) ?_
          obtain ⟨h_105, hm⟩ := hm
          refine z_iast hx hb hj hK hP hS zI_34 h_105 dX1_comesNearer_105 (fun H locs hP hS => ?_)
          obtain ⟨S_105, eS_105⟩ : ∃ z : ZS, z = zu S 34 (x4).toNatClampNeg x5_81 := ⟨_, rfl⟩
          rw [← eS_105] at hP
          have hm := hm S_105 eS_105
          refine lv_aload_n hx hb dX1_comesNearer_106 rfl (lv_at hl 1 rfl) ?_
          refine zg_1_arcTo hx hb hts i1 hown hK hP (hts _ (List.mem_of_getElem? (i := 6) rfl)) dX1_comesNearer_107 ?_
          refine lv_iload hx hb dX1_comesNearer_110 (lv_at hl 4 rfl) ?_
          refine lv_iload_n hx hb dX1_comesNearer_112 rfl (lv_at hl 2 rfl) ?_
          obtain ⟨h_113, hm⟩ := hm
          refine z_iast hx hb hj hK hP hS zI_35 h_113 dX1_comesNearer_113 (fun H locs hP hS => ?_)
          obtain ⟨S_113, eS_113⟩ : ∃ z : ZS, z = zu S_105 35 (x4).toNatClampNeg x1 := ⟨_, rfl⟩
          rw [← eS_113] at hP
          have hm := hm S_113 eS_113
          refine lv_aload_n hx hb dX1_comesNearer_114 rfl (lv_at hl 1 rfl) ?_
          refine zg_1_raises hx hb hts i1 hown hK hP (hts _ (List.mem_of_getElem? (i := 7) rfl)) dX1_comesNearer_115 ?_
          refine lv_iload hx hb dX1_comesNearer_118 (lv_at hl 4 rfl) ?_
          refine lv_iload_n hx hb dX1_comesNearer_120 rfl (lv_at hl 3 rfl) ?_
          obtain ⟨hz_121, hm⟩ := hm
          obtain ⟨h_121, hm⟩ := hm
          refine z_zast hx hb hj hK hP hS zZ_36 hz_121 h_121 dX1_comesNearer_121 (fun H locs hP hS => ?_)
          obtain ⟨S_121, eS_121⟩ : ∃ z : ZS, z = zu S_113 36 (x4).toNatClampNeg x2 := ⟨_, rfl⟩
          rw [← eS_121] at hP
          have hm := hm S_121 eS_121
          refine lv_iconst (v := (1 : Int32)) hx hb dX1_comesNearer_122 (by decide) ?_
          exact z_retz hx hb hr hlocks hP hS hm dX1_comesNearer_123
        · have hm := hm.2 c_92
          refine lv_iconst (v := (0 : Int32)) hx hb dX1_comesNearer_95 (by decide) ?_
          exact z_retz hx hb hr hlocks hP hS hm dX1_comesNearer_96
      refine lv_istore (lv' := [(4, .int t0), (0, .ref (a 3)), (1, .int x1), (2, .int x2), (3, .int x3)]) hx hb dX1_comesNearer_39 hl (by decide) rfl (fun ls hl => ?_)
      refine lv_aload_n hx hb dX1_comesNearer_41 rfl (lv_at hl 1 rfl) ?_
      refine zg_1_distance hx hb hts i1 hown hK hP (hts _ (List.mem_of_getElem? (i := 3) rfl)) dX1_comesNearer_42 ?_
      refine lv_iload_n hx hb dX1_comesNearer_45 rfl (lv_at hl 4 rfl) ?_
      obtain ⟨h_46, hm⟩ := hm
      refine z_iald hx hb hK hP zI_34 h_46 dX1_comesNearer_46 ?_
      refine lv_ldc (v := (1000000000 : Int32)) hx hb hown (hts _ (List.mem_of_getElem? (i := 4) rfl)) dX1_comesNearer_47 ?_
      refine lv_icmp_ne (tgt := 54) hx hb dX1_comesNearer_49 (by decide) (fun c_49 => ?_) (fun c_49 => ?_)
      · have hm := hm.2 c_49
        refine lv_aload_n hx hb dX1_comesNearer_54 rfl (lv_at hl 1 rfl) ?_
        refine zg_1_distance hx hb hts i1 hown hK hP (hts _ (List.mem_of_getElem? (i := 3) rfl)) dX1_comesNearer_55 ?_
        refine lv_iload_n hx hb dX1_comesNearer_58 rfl (lv_at hl 4 rfl) ?_
        obtain ⟨h_59, hm⟩ := hm
        refine z_iald hx hb hK hP zI_34 h_59 dX1_comesNearer_59 ?_
        refine lv_iload_n hx hb dX1_comesNearer_60 rfl (lv_at hl 3 rfl) ?_
        refine lv_if_eq (tgt := 73) hx hb dX1_comesNearer_61 (by decide) (fun c_61 => ?_) (fun c_61 => ?_)
        · have hm := hm.1 c_61
          refine lv_aload_n hx hb dX1_comesNearer_73 rfl (lv_at hl 1 rfl) ?_
          refine zg_1_weight hx hb hts i1 hown hK hP (hts _ (List.mem_of_getElem? (i := 5) rfl)) dX1_comesNearer_74 ?_
          refine lv_iload_n hx hb dX1_comesNearer_77 rfl (lv_at hl 2 rfl) ?_
          obtain ⟨h_78, hm⟩ := hm
          refine z_iald hx hb hK hP zI_32 h_78 dX1_comesNearer_78 ?_
          refine lv_ineg hx hb dX1_comesNearer_79 ?_
          exact b80 x1 x2 t0 (-(S.1 32 (x1).toNatClampNeg)) (S.1 34 (x3).toNatClampNeg) S _ _ _ hm hP hS (lv_sub hl [1, 2, 3, 0] rfl)
        · have hm := hm.2 c_61
          refine lv_aload_n hx hb dX1_comesNearer_64 rfl (lv_at hl 1 rfl) ?_
          refine zg_1_weight hx hb hts i1 hown hK hP (hts _ (List.mem_of_getElem? (i := 5) rfl)) dX1_comesNearer_65 ?_
          refine lv_iload_n hx hb dX1_comesNearer_68 rfl (lv_at hl 2 rfl) ?_
          obtain ⟨h_69, hm⟩ := hm
          refine z_iald hx hb hK hP zI_32 h_69 dX1_comesNearer_69 ?_
          refine lv_goto (tgt := 80) hx hb dX1_comesNearer_70 (by decide) ?_
          exact b80 x1 x2 t0 (S.1 32 (x1).toNatClampNeg) (S.1 34 (x3).toNatClampNeg) S _ _ _ hm hP hS (lv_sub hl [1, 2, 3, 0] rfl)
      · have hm := hm.1 c_49
        refine lv_iconst (v := (0 : Int32)) hx hb dX1_comesNearer_52 (by decide) ?_
        exact z_retz hx hb hr hlocks hP hS hm dX1_comesNearer_53
    refine lv_istore_n (lv' := [(3, .int t0), (0, .ref (a 3)), (1, .int x1), (2, .int x2)]) hx hb dX1_comesNearer_19 rfl hl (by decide) rfl (fun ls hl => ?_)
    refine lv_iload_n hx hb dX1_comesNearer_20 rfl (lv_at hl 3 rfl) ?_
    refine lv_if_eq (tgt := 33) hx hb dX1_comesNearer_21 (by decide) (fun c_21 => ?_) (fun c_21 => ?_)
    · have hm := hm.1 c_21
      refine lv_aload_n hx hb dX1_comesNearer_33 rfl (lv_at hl 1 rfl) ?_
      refine zg_1_lower hx hb hts i1 hown hK hP (hts _ (List.mem_of_getElem? (i := 1) rfl)) dX1_comesNearer_34 ?_
      refine lv_iload_n hx hb dX1_comesNearer_37 rfl (lv_at hl 2 rfl) ?_
      obtain ⟨h_38, hm⟩ := hm
      refine z_iald hx hb hK hP zI_27 h_38 dX1_comesNearer_38 ?_
      exact b39 x1 x2 t0 (S.1 27 (x1).toNatClampNeg) S _ _ _ hm hP hS (lv_sub hl [1, 2, 3, 0] rfl)
    · have hm := hm.2 c_21
      refine lv_aload_n hx hb dX1_comesNearer_24 rfl (lv_at hl 1 rfl) ?_
      refine zg_1_upper hx hb hts i1 hown hK hP (hts _ (List.mem_of_getElem? (i := 2) rfl)) dX1_comesNearer_25 ?_
      refine lv_iload_n hx hb dX1_comesNearer_28 rfl (lv_at hl 2 rfl) ?_
      obtain ⟨h_29, hm⟩ := hm
      refine z_iald hx hb hK hP zI_26 h_29 dX1_comesNearer_29 ?_
      refine lv_goto (tgt := 39) hx hb dX1_comesNearer_30 (by decide) ?_
      exact b39 x1 x2 t0 (S.1 26 (x1).toNatClampNeg) S _ _ _ hm hP hS (lv_sub hl [1, 2, 3, 0] rfl)
  unfold X1_comesNearer at hm
  refine lv_iload_n hx hb dX1_comesNearer_0 rfl (lv_at hl 2 rfl) ?_
  refine lv_if_eq (tgt := 13) hx hb dX1_comesNearer_1 (by decide) (fun c_1 => ?_) (fun c_1 => ?_)
  · have hm := hm.1 c_1
    refine lv_aload_n hx hb dX1_comesNearer_13 rfl (lv_at hl 0 rfl) ?_
    refine zg_1_upper hx hb hts i1 hown hK hP (hts _ (List.mem_of_getElem? (i := 2) rfl)) dX1_comesNearer_14 ?_
    refine lv_iload_n hx hb dX1_comesNearer_17 rfl (lv_at hl 1 rfl) ?_
    obtain ⟨h_18, hm⟩ := hm
    refine z_iald hx hb hK hP zI_26 h_18 dX1_comesNearer_18 ?_
    exact b19 y1 y2 (S.1 26 (y1).toNatClampNeg) S _ _ _ hm hP hS (lv_sub hl [0, 1, 2] rfl)
  · have hm := hm.2 c_1
    refine lv_aload_n hx hb dX1_comesNearer_4 rfl (lv_at hl 0 rfl) ?_
    refine zg_1_lower hx hb hts i1 hown hK hP (hts _ (List.mem_of_getElem? (i := 1) rfl)) dX1_comesNearer_5 ?_
    refine lv_iload_n hx hb dX1_comesNearer_8 rfl (lv_at hl 1 rfl) ?_
    obtain ⟨h_9, hm⟩ := hm
    refine z_iald hx hb hK hP zI_27 h_9 dX1_comesNearer_9 ?_
    refine lv_goto (tgt := 19) hx hb dX1_comesNearer_10 (by decide) ?_
    exact b19 y1 y2 (S.1 27 (y1).toNatClampNeg) S _ _ _ hm hP hS (lv_sub hl [0, 1, 2] rfl)

abbrev rm_X1_measure : Room := { frames := 1, cells := 0, slots := 0, locals := 25 }
def X1_measure_b144 (S : ZS) (Q : ZS → Prop) : Prop :=
  Q S
def X1_measure_b138 (x1 : Int32) (x2 : Int32) (S : ZS) (Q : ZS → Prop) (k46 : Int32 × Int32 × ZS → Prop) : Prop :=
  ∀ x2_138 : Int32, x2_138 = x2 + (1 : Int32) → k46 (x1, x2_138, S)
def X1_measure_b130 (x2 : Int32) (x3 : Int32) (t0 : Int32) (t1 : Int32) (S : ZS) (Q : ZS → Prop) (k46 : Int32 × Int32 × ZS → Prop) (k60 : Int32 × Int32 × ZS → Prop) : Prop :=
  ∀ x1_131 : Int32, x1_131 = (t1 ||| t0) → ∀ x3_132 : Int32, x3_132 = x3 + (1 : Int32) → k60 (x1_131, x3_132, S)
def X1_measure_b129 (x2 : Int32) (x3 : Int32) (t0 : Int32) (S : ZS) (Q : ZS → Prop) (k46 : Int32 × Int32 × ZS → Prop) (k60 : Int32 × Int32 × ZS → Prop) : Prop :=
  X1_measure_b130 x2 x3 (0 : Int32) t0 S Q k46 k60
def X1_measure_b98 (x2 : Int32) (x3 : Int32) (t0 : Int32) (t1 : Int32) (S : ZS) (Q : ZS → Prop) (k46 : Int32 × Int32 × ZS → Prop) (k60 : Int32 × Int32 × ZS → Prop) : Prop :=
  ∀ x1_99 : Int32, x1_99 = (t1 ||| t0) → vp_in x3 18 ∧ vp_in x3 18 ∧ ((S.1 31 (x3).toNatClampNeg) ≤ (S.1 28 (x3).toNatClampNeg) → X1_measure_b129 x2 x3 x1_99 S Q k46 k60) ∧ (¬ (S.1 31 (x3).toNatClampNeg) ≤ (S.1 28 (x3).toNatClampNeg) → X1_comesNearer x3 (0 : Int32) S (fun r_119 S_119 => (r_119 = 0 → X1_measure_b129 x2 x3 x1_99 S_119 Q k46 k60) ∧ (¬ r_119 = 0 → X1_measure_b130 x2 x3 (1 : Int32) x1_99 S_119 Q k46 k60)))
def X1_measure_b97 (x2 : Int32) (x3 : Int32) (t0 : Int32) (S : ZS) (Q : ZS → Prop) (k46 : Int32 × Int32 × ZS → Prop) (k60 : Int32 × Int32 × ZS → Prop) : Prop :=
  X1_measure_b98 x2 x3 (0 : Int32) t0 S Q k46 k60
def X1_measure_B60 (x2 : Int32) (x1 : Int32) (x3 : Int32) (S : ZS) (Q : ZS → Prop) (k46 : Int32 × Int32 × ZS → Prop) (k60 : Int32 × Int32 × ZS → Prop) : Prop :=
  ((S.1 3 0) ≤ x3 → X1_measure_b138 x1 x2 S Q k46) ∧ (¬ (S.1 3 0) ≤ x3 → vp_in x3 18 ∧ vp_in x3 18 ∧ ((S.1 29 (x3).toNatClampNeg) ≤ (S.1 31 (x3).toNatClampNeg) → X1_measure_b97 x2 x3 x1 S Q k46 k60) ∧ (¬ (S.1 29 (x3).toNatClampNeg) ≤ (S.1 31 (x3).toNatClampNeg) → X1_comesNearer x3 (1 : Int32) S (fun r_87 S_87 => (r_87 = 0 → X1_measure_b97 x2 x3 x1 S_87 Q k46 k60) ∧ (¬ r_87 = 0 → X1_measure_b98 x2 x3 (1 : Int32) x1 S_87 Q k46 k60))))
def X1_measure_L60 (x2 : Int32) (Q : ZS → Prop) (k46 : Int32 × Int32 × ZS → Prop) : (Int32 × Int32 × ZS) → ((Int32 × Int32 × ZS) → Prop) → Prop := fun st k60 => X1_measure_B60 x2 st.1 st.2.1 st.2.2 Q k46 k60
def X1_measure_B46 (x1 : Int32) (x2 : Int32) (S : ZS) (Q : ZS → Prop) (k46 : Int32 × Int32 × ZS → Prop) : Prop :=
  (x1 = 0 → X1_measure_b144 S Q) ∧ (¬ x1 = 0 → ((9 : Int32) ≤ x2 → X1_measure_b144 S Q) ∧ (¬ (9 : Int32) ≤ x2 → zl (X1_measure_L60 x2 Q k46) ((0 : Int32), (0 : Int32), S)))
def X1_measure_L46 (Q : ZS → Prop) : (Int32 × Int32 × ZS) → ((Int32 × Int32 × ZS) → Prop) → Prop := fun st k46 => X1_measure_B46 st.1 st.2.1 st.2.2 Q k46
def X1_measure_b42 (S : ZS) (Q : ZS → Prop) : Prop :=
  zl (X1_measure_L46 Q) ((1 : Int32), (0 : Int32), S)
def X1_measure_b28 (x1 : Int32) (t0 : Int32) (t1 : Int32) (S : ZS) (Q : ZS → Prop) (k2 : Int32 × ZS → Prop) : Prop :=
  vp_in t1 9 ∧ ∀ S_28 : ZS, S_28 = zu S 34 (t1).toNatClampNeg t0 → vp_in x1 9 ∧ ∀ S_35 : ZS, S_35 = zu S_28 35 (x1).toNatClampNeg (-1 : Int32) → ∀ x1_36 : Int32, x1_36 = x1 + (1 : Int32) → k2 (x1_36, S_35)
def X1_measure_B2 (x1 : Int32) (S : ZS) (Q : ZS → Prop) (k2 : Int32 × ZS → Prop) : Prop :=
  ((9 : Int32) ≤ x1 → X1_measure_b42 S Q) ∧ (¬ (9 : Int32) ≤ x1 → vp_in x1 9 ∧ (0 ≤ (S.1 33 (x1).toNatClampNeg) → X1_measure_b28 x1 (1000000000 : Int32) x1 S Q k2) ∧ (¬ 0 ≤ (S.1 33 (x1).toNatClampNeg) → X1_measure_b28 x1 (0 : Int32) x1 S Q k2))
def X1_measure_L2 (Q : ZS → Prop) : (Int32 × ZS) → ((Int32 × ZS) → Prop) → Prop := fun st k2 => X1_measure_B2 st.1 st.2 Q k2
def X1_measure (S : ZS) (Q : ZS → Prop) : Prop :=
  zl (X1_measure_L2 Q) ((0 : Int32), S)
set_option maxHeartbeats 4000000 in
set_option maxRecDepth 100000 in
theorem c_X1_measure (l : Launch) (D : va_G) (k : Nat → ClassId) (a : Nat → Nat) (hj : zDj a) (S : ZS) (Q : ZS → Prop) (hm : X1_measure S Q) (sz : Nat) : Met l yX1_measure wsX1_measure rm_X1_measure (zPc D k a [.ref (a 3)] S sz) (va_Qv Q (zB D k a) (zA a sz)) 0 0 (zA a sz) := by
  refine Met.ofW (cc := cX1_measure) (maxL := 4) (ret := none) (by decide) rfl ?_
  intro p e s m args below meth c s₁ B hml hv
  obtain ⟨rfl, hsz, hP, hK⟩ := hv
  have hx := B.exec
  have hb := B.bytes
  have hr := B.returns
  have hts := atoms_spec (ws := wsX1_measure) B.pre
  have hown : s.vm.findClass RX1 = some m.cls := findClass_of_methodNamed B.named
  have hlocks := B.notSynchronized
  subst hsz
  have hS : va_S (zA a s.heap.size) s.heap s.heap [] := va_S.rf
  have hF : CallFix p m c cX1_measure 4 s _ wsX1_measure RX1 := ⟨hx, hb, hml, hown, hts⟩
  have i1 : ∀ w ∈ wsX10, w ∈ wsX1_measure := fun _ h => (List.mem_cons_of_mem _ (List.mem_append_right _ h))
  have hl := lv_entry ([.ref (a 3)]) (n := 4) (Nat.le_of_ble_eq_true rfl)
  rw [lg_entry_eq]
  generalize (lg_sl ([.ref (a 3)]) ++ List.replicate (4 - (lg_sl ([.ref (a 3)])).length) Slot.unset).toArray = ls at hl ⊢
  have hl : lv_has ls 4 [(0, .ref (a 3))] := hl
  have b42 : ∀ (S : ZS) (H : Heap) (locs : List Loc) (ls : Array Slot), X1_measure_b42 S Q → va_P D vwCl (zWS k a S) H → va_S (zA a s.heap.size) s.heap H locs → lv_has ls 4 [(0, .ref (a 3))] → zWv p l e (headSpec wsX1_measure rm_X1_measure).room s m ([.ref (a 3)] : List Value) below meth c D k a Q H locs (F0 m 42 ls []) := by
    intro S H locs ls hm hP hS hl
    unfold X1_measure_b42 at hm
    have b144 : ∀ (S : ZS) (H : Heap) (locs : List Loc) (ls : Array Slot), X1_measure_b144 S Q → va_P D vwCl (zWS k a S) H → va_S (zA a s.heap.size) s.heap H locs → lv_has ls 4 [(0, .ref (a 3))] → zWv p l e (headSpec wsX1_measure rm_X1_measure).room s m ([.ref (a 3)] : List Value) below meth c D k a Q H locs (F0 m 144 ls []) := by
      intro S H locs ls hm hP hS hl
      unfold X1_measure_b144 at hm
      exact z_retv hx hb hr hlocks hP hS hm dX1_measure_144
    have L46 : ∀ (n : Nat) (x1 : Int32) (x2 : Int32) (S : ZS) (H : Heap) (locs : List Loc) (ls : Array Slot), zn (X1_measure_L46 Q) n (x1, x2, S) → va_P D vwCl (zWS k a S) H → va_S (zA a s.heap.size) s.heap H locs → lv_has ls 4 [(0, .ref (a 3)), (1, .int x1), (2, .int x2)] → zWv p l e (headSpec wsX1_measure rm_X1_measure).room s m ([.ref (a 3)] : List Value) below meth c D k a Q H locs (F0 m 46 ls []) := by
      intro n
      induction n with
      | zero =>
        intro x1 x2 S H locs ls hm
        exact hm.elim
      | succ n ih46 =>
        intro x1 x2 S H locs ls hm hP hS hl
        have hm : X1_measure_B46 x1 x2 S Q (zn (X1_measure_L46 Q) n) := hm
        generalize zn (X1_measure_L46 Q) n = k46 at hm ih46
        unfold X1_measure_B46 at hm
        have b138 : ∀ (x1 : Int32) (x2 : Int32) (S : ZS) (H : Heap) (locs : List Loc) (ls : Array Slot), X1_measure_b138 x1 x2 S Q k46 → va_P D vwCl (zWS k a S) H → va_S (zA a s.heap.size) s.heap H locs → lv_has ls 4 [(0, .ref (a 3)), (1, .int x1), (2, .int x2)] → zWv p l e (headSpec wsX1_measure rm_X1_measure).room s m ([.ref (a 3)] : List Value) below meth c D k a Q H locs (F0 m 138 ls []) := by
          intro x1 x2 S H locs ls hm hP hS hl
          unfold X1_measure_b138 at hm
          obtain ⟨x2_138, ex2_138⟩ : ∃ y : Int32, y = x2 + (1 : Int32) := ⟨_, rfl⟩
          have hm := hm x2_138 ex2_138
          refine lv_iinc (v := x2_138) (lv' := [(2, .int x2_138), (0, .ref (a 3)), (1, .int x1)]) hx hb dX1_measure_138 hl (k := 2) rfl (by rw [ex2_138]; rfl) (by decide) rfl (fun ls hl => ?_)
          refine lv_goto (tgt := 46) hx hb dX1_measure_141 (by decide) ?_
          exact ih46 x1 x2_138 S _ _ _ hm hP hS (lv_sub hl [1, 2, 0] rfl)
        have L60 : ∀ (x2 : Int32) (n : Nat) (x1 : Int32) (x3 : Int32) (S : ZS) (H : Heap) (locs : List Loc) (ls : Array Slot), zn (X1_measure_L60 x2 Q k46) n (x1, x3, S) → va_P D vwCl (zWS k a S) H → va_S (zA a s.heap.size) s.heap H locs → lv_has ls 4 [(0, .ref (a 3)), (1, .int x1), (2, .int x2), (3, .int x3)] → zWv p l e (headSpec wsX1_measure rm_X1_measure).room s m ([.ref (a 3)] : List Value) below meth c D k a Q H locs (F0 m 60 ls []) := by
          intro x2 n
          induction n with
          | zero =>
            intro x1 x3 S H locs ls hm
            exact hm.elim
          | succ n ih60 =>
            intro x1 x3 S H locs ls hm hP hS hl
            have hm : X1_measure_B60 x2 x1 x3 S Q k46 (zn (X1_measure_L60 x2 Q k46) n) := hm
            generalize zn (X1_measure_L60 x2 Q k46) n = k60 at hm ih60
            unfold X1_measure_B60 at hm
            have b98 : ∀ (x3 : Int32) (t0 : Int32) (t1 : Int32) (S : ZS) (H : Heap) (locs : List Loc) (ls : Array Slot), X1_measure_b98 x2 x3 t0 t1 S Q k46 k60 → va_P D vwCl (zWS k a S) H → va_S (zA a s.heap.size) s.heap H locs → lv_has ls 4 [(0, .ref (a 3)), (2, .int x2), (3, .int x3)] → zWv p l e (headSpec wsX1_measure rm_X1_measure).room s m ([.ref (a 3)] : List Value) below meth c D k a Q H locs (F0 m 98 ls [.int t0, .int t1]) := by
              intro x3 t0 t1 S H locs ls hm hP hS hl
              unfold X1_measure_b98 at hm
              have b130 : ∀ (x3 : Int32) (t0 : Int32) (t1 : Int32) (S : ZS) (H : Heap) (locs : List Loc) (ls : Array Slot), X1_measure_b130 x2 x3 t0 t1 S Q k46 k60 → va_P D vwCl (zWS k a S) H → va_S (zA a s.heap.size) s.heap H locs → lv_has ls 4 [(0, .ref (a 3)), (2, .int x2), (3, .int x3)] → zWv p l e (headSpec wsX1_measure rm_X1_measure).room s m ([.ref (a 3)] : List Value) below meth c D k a Q H locs (F0 m 130 ls [.int t0, .int t1]) := by
                intro x3 t0 t1 S H locs ls hm hP hS hl
                unfold X1_measure_b130 at hm
                refine lv_ior hx hb dX1_measure_130 ?_
                refine lv_topi (fun x1_131 ex1_131 => ?_)
                have hm := hm x1_131 ex1_131
                refine lv_istore_n (lv' := [(1, .int x1_131), (0, .ref (a 3)), (2, .int x2), (3, .int x3)]) hx hb dX1_measure_131 rfl hl (by decide) rfl (fun ls hl => ?_)
                obtain ⟨x3_132, ex3_132⟩ : ∃ y : Int32, y = x3 + (1 : Int32) := ⟨_, rfl⟩
                have hm := hm x3_132 ex3_132
                refine lv_iinc (v := x3_132) (lv' := [(3, .int x3_132), (1, .int x1_131), (0, .ref (a 3)), (2, .int x2)]) hx hb dX1_measure_132 hl (k := 3) rfl (by rw [ex3_132]; rfl) (by decide) rfl (fun ls hl => ?_)
                refine lv_goto (tgt := 60) hx hb dX1_measure_135 (by decide) ?_
                exact ih60 x1_131 x3_132 S _ _ _ hm hP hS (lv_sub hl [2, 1, 3, 0] rfl)
              have b129 : ∀ (x3 : Int32) (t0 : Int32) (S : ZS) (H : Heap) (locs : List Loc) (ls : Array Slot), X1_measure_b129 x2 x3 t0 S Q k46 k60 → va_P D vwCl (zWS k a S) H → va_S (zA a s.heap.size) s.heap H locs → lv_has ls 4 [(0, .ref (a 3)), (2, .int x2), (3, .int x3)] → zWv p l e (headSpec wsX1_measure rm_X1_measure).room s m ([.ref (a 3)] : List Value) below meth c D k a Q H locs (F0 m 129 ls [.int t0]) := by
                intro x3 t0 S H locs ls hm hP hS hl
                unfold X1_measure_b129 at hm
                refine lv_iconst (v := (0 : Int32)) hx hb dX1_measure_129 (by decide) ?_
                exact b130 x3 (0 : Int32) t0 S _ _ _ hm hP hS (lv_sub hl [0, 1, 2] rfl)
              refine lv_ior hx hb dX1_measure_98 ?_
              refine lv_topi (fun x1_99 ex1_99 => ?_)
              have hm := hm x1_99 ex1_99
              refine lv_istore_n (lv' := [(1, .int x1_99), (0, .ref (a 3)), (2, .int x2), (3, .int x3)]) hx hb dX1_measure_99 rfl hl (by decide) rfl (fun ls hl => ?_)
              refine lv_iload_n hx hb dX1_measure_100 rfl (lv_at hl 0 rfl) ?_
              refine lv_aload_n hx hb dX1_measure_101 rfl (lv_at hl 1 rfl) ?_
              refine zg_1_amount hx hb hts i1 hown hK hP (hts _ (List.mem_of_getElem? (i := 6) rfl)) dX1_measure_102 ?_
              refine lv_iload_n hx hb dX1_measure_105 rfl (lv_at hl 3 rfl) ?_
              obtain ⟨h_106, hm⟩ := hm
              refine z_iald hx hb hK hP zI_31 h_106 dX1_measure_106 ?_
              refine lv_aload_n hx hb dX1_measure_107 rfl (lv_at hl 1 rfl) ?_
              refine zg_1_low hx hb hts i1 hown hK hP (hts _ (List.mem_of_getElem? (i := 8) rfl)) dX1_measure_108 ?_
              refine lv_iload_n hx hb dX1_measure_111 rfl (lv_at hl 3 rfl) ?_
              obtain ⟨h_112, hm⟩ := hm
              refine z_iald hx hb hK hP zI_28 h_112 dX1_measure_112 ?_
              refine lv_icmp_le (tgt := 129) hx hb dX1_measure_113 (by decide) (fun c_113 => ?_) (fun c_113 => ?_)
              · have hm := hm.1 c_113
                exact b129 x3 x1_99 S _ _ _ hm hP hS (lv_sub hl [1, 2, 3] rfl)
              · have hm := hm.2 c_113
                refine lv_aload_n hx hb dX1_measure_116 rfl (lv_at hl 1 rfl) ?_
                refine lv_iload_n hx hb dX1_measure_117 rfl (lv_at hl 3 rfl) ?_
                refine lv_iconst (v := (0 : Int32)) hx hb dX1_measure_118 (by decide) ?_
                refine z_cVi (As := [.int x3, .int (0 : Int32)]) (rest := [.int x1_99]) hF hK hP hS zO_3 rfl rfl (c_X1_comesNearer l D k a hj x3 (0 : Int32) S _ hm _) (cwV 2 hts gX1_measure_X1_comesNearer rfl rfl rfl (by decide +kernel) ⟨Nat.le_of_ble_eq_true rfl, Nat.le_of_ble_eq_true rfl⟩) rfl hl.1 rfl (Nat.le_of_ble_eq_true rfl) dX1_measure_119 ⟨Nat.zero_le _, Nat.zero_le _⟩ (fun r_119 S_119 H locs hm hP hS => ?_)
                refine lv_if_eq (tgt := 129) hx hb dX1_measure_122 (by decide) (fun c_122 => ?_) (fun c_122 => ?_)
                · have hm := hm.1 c_122
                  exact b129 x3 x1_99 S_119 _ _ _ hm hP hS (lv_sub hl [1, 2, 3] rfl)
                · have hm := hm.2 c_122
                  refine lv_iconst (v := (1 : Int32)) hx hb dX1_measure_125 (by decide) ?_
                  refine lv_goto (tgt := 130) hx hb dX1_measure_126 (by decide) ?_
                  exact b130 x3 (1 : Int32) x1_99 S_119 _ _ _ hm hP hS (lv_sub hl [1, 2, 3] rfl)
            have b97 : ∀ (x3 : Int32) (t0 : Int32) (S : ZS) (H : Heap) (locs : List Loc) (ls : Array Slot), X1_measure_b97 x2 x3 t0 S Q k46 k60 → va_P D vwCl (zWS k a S) H → va_S (zA a s.heap.size) s.heap H locs → lv_has ls 4 [(0, .ref (a 3)), (2, .int x2), (3, .int x3)] → zWv p l e (headSpec wsX1_measure rm_X1_measure).room s m ([.ref (a 3)] : List Value) below meth c D k a Q H locs (F0 m 97 ls [.int t0]) := by
              intro x3 t0 S H locs ls hm hP hS hl
              unfold X1_measure_b97 at hm
              refine lv_iconst (v := (0 : Int32)) hx hb dX1_measure_97 (by decide) ?_
              exact b98 x3 (0 : Int32) t0 S _ _ _ hm hP hS (lv_sub hl [0, 1, 2] rfl)
            refine lv_iload_n hx hb dX1_measure_60 rfl (lv_at hl 3 rfl) ?_
            refine lv_aload_n hx hb dX1_measure_61 rfl (lv_at hl 0 rfl) ?_
            refine zg_1_arcs hx hb hts i1 hown hK hP (hts _ (List.mem_of_getElem? (i := 5) rfl)) dX1_measure_62 ?_
            refine lv_icmp_ge (tgt := 138) hx hb dX1_measure_65 (by decide) (fun c_65 => ?_) (fun c_65 => ?_)
            · have hm := hm.1 c_65
              exact b138 x1 x2 S _ _ _ hm hP hS (lv_sub hl [0, 1, 2] rfl)
            · have hm := hm.2 c_65
              refine lv_iload_n hx hb dX1_measure_68 rfl (lv_at hl 1 rfl) ?_
              refine lv_aload_n hx hb dX1_measure_69 rfl (lv_at hl 0 rfl) ?_
              refine zg_1_amount hx hb hts i1 hown hK hP (hts _ (List.mem_of_getElem? (i := 6) rfl)) dX1_measure_70 ?_
              refine lv_iload_n hx hb dX1_measure_73 rfl (lv_at hl 3 rfl) ?_
              obtain ⟨h_74, hm⟩ := hm
              refine z_iald hx hb hK hP zI_31 h_74 dX1_measure_74 ?_
              refine lv_aload_n hx hb dX1_measure_75 rfl (lv_at hl 0 rfl) ?_
              refine zg_1_high hx hb hts i1 hown hK hP (hts _ (List.mem_of_getElem? (i := 7) rfl)) dX1_measure_76 ?_
              refine lv_iload_n hx hb dX1_measure_79 rfl (lv_at hl 3 rfl) ?_
              obtain ⟨h_80, hm⟩ := hm
              refine z_iald hx hb hK hP zI_29 h_80 dX1_measure_80 ?_
              refine lv_icmp_ge (tgt := 97) hx hb dX1_measure_81 (by decide) (fun c_81 => ?_) (fun c_81 => ?_)
              · have hm := hm.1 c_81
                exact b97 x3 x1 S _ _ _ hm hP hS (lv_sub hl [0, 2, 3] rfl)
              · have hm := hm.2 c_81
                refine lv_aload_n hx hb dX1_measure_84 rfl (lv_at hl 0 rfl) ?_
                refine lv_iload_n hx hb dX1_measure_85 rfl (lv_at hl 3 rfl) ?_
                refine lv_iconst (v := (1 : Int32)) hx hb dX1_measure_86 (by decide) ?_
                refine z_cVi (As := [.int x3, .int (1 : Int32)]) (rest := [.int x1]) hF hK hP hS zO_3 rfl rfl (c_X1_comesNearer l D k a hj x3 (1 : Int32) S _ hm _) (cwV 2 hts gX1_measure_X1_comesNearer rfl rfl rfl (by decide +kernel) ⟨Nat.le_of_ble_eq_true rfl, Nat.le_of_ble_eq_true rfl⟩) rfl hl.1 rfl (Nat.le_of_ble_eq_true rfl) dX1_measure_87 ⟨Nat.zero_le _, Nat.zero_le _⟩ (fun r_87 S_87 H locs hm hP hS => ?_)
                refine lv_if_eq (tgt := 97) hx hb dX1_measure_90 (by decide) (fun c_90 => ?_) (fun c_90 => ?_)
                · have hm := hm.1 c_90
                  exact b97 x3 x1 S_87 _ _ _ hm hP hS (lv_sub hl [0, 2, 3] rfl)
                · have hm := hm.2 c_90
                  refine lv_iconst (v := (1 : Int32)) hx hb dX1_measure_93 (by decide) ?_
                  refine lv_goto (tgt := 98) hx hb dX1_measure_94 (by decide) ?_
                  exact b98 x3 (1 : Int32) x1 S_87 _ _ _ hm hP hS (lv_sub hl [0, 2, 3] rfl)
        refine lv_iload_n hx hb dX1_measure_46 rfl (lv_at hl 1 rfl) ?_
        refine lv_if_eq (tgt := 144) hx hb dX1_measure_47 (by decide) (fun c_47 => ?_) (fun c_47 => ?_)
        · have hm := hm.1 c_47
          exact b144  S _ _ _ hm hP hS (lv_sub hl [0] rfl)
        · have hm := hm.2 c_47
          refine lv_iload_n hx hb dX1_measure_50 rfl (lv_at hl 2 rfl) ?_
          refine lv_bipush (v := (9 : Int32)) hx hb dX1_measure_51 (by decide) ?_
          refine lv_icmp_ge (tgt := 144) hx hb dX1_measure_53 (by decide) (fun c_53 => ?_) (fun c_53 => ?_)
          · have hm := hm.1 c_53
            exact b144  S _ _ _ hm hP hS (lv_sub hl [0] rfl)
          · have hm := hm.2 c_53
            refine lv_iconst (v := (0 : Int32)) hx hb dX1_measure_56 (by decide) ?_
            refine lv_istore_n (lv' := [(1, .int (0 : Int32)), (0, .ref (a 3)), (2, .int x2)]) hx hb dX1_measure_57 rfl hl (by decide) rfl (fun ls hl => ?_)
            refine lv_iconst (v := (0 : Int32)) hx hb dX1_measure_58 (by decide) ?_
            refine lv_istore_n (lv' := [(3, .int (0 : Int32)), (1, .int (0 : Int32)), (0, .ref (a 3)), (2, .int x2)]) hx hb dX1_measure_59 rfl hl (by decide) rfl (fun ls hl => ?_)
            obtain ⟨n60, hm⟩ := hm
            exact L60 x2 n60 (0 : Int32) (0 : Int32) S _ _ _ hm hP hS (lv_sub hl [2, 1, 3, 0] rfl)
    refine lv_iconst (v := (1 : Int32)) hx hb dX1_measure_42 (by decide) ?_
    refine lv_istore_n (lv' := [(1, .int (1 : Int32)), (0, .ref (a 3))]) hx hb dX1_measure_43 rfl hl (by decide) rfl (fun ls hl => ?_)
    refine lv_iconst (v := (0 : Int32)) hx hb dX1_measure_44 (by decide) ?_
    refine lv_istore_n (lv' := [(2, .int (0 : Int32)), (1, .int (1 : Int32)), (0, .ref (a 3))]) hx hb dX1_measure_45 rfl hl (by decide) rfl (fun ls hl => ?_)
    obtain ⟨n46, hm⟩ := hm
    exact L46 n46 (1 : Int32) (0 : Int32) S _ _ _ hm hP hS (lv_sub hl [2, 1, 0] rfl)
  have L2 : ∀ (n : Nat) (x1 : Int32) (S : ZS) (H : Heap) (locs : List Loc) (ls : Array Slot), zn (X1_measure_L2 Q) n (x1, S) → va_P D vwCl (zWS k a S) H → va_S (zA a s.heap.size) s.heap H locs → lv_has ls 4 [(0, .ref (a 3)), (1, .int x1)] → zWv p l e (headSpec wsX1_measure rm_X1_measure).room s m ([.ref (a 3)] : List Value) below meth c D k a Q H locs (F0 m 2 ls []) := by
    intro n
    induction n with
    | zero =>
      intro x1 S H locs ls hm
      exact hm.elim
    | succ n ih2 =>
      intro x1 S H locs ls hm hP hS hl
      have hm : X1_measure_B2 x1 S Q (zn (X1_measure_L2 Q) n) := hm
      generalize zn (X1_measure_L2 Q) n = k2 at hm ih2
      unfold X1_measure_B2 at hm
      have b28 : ∀ (x1 : Int32) (t0 : Int32) (t1 : Int32) (S : ZS) (H : Heap) (locs : List Loc) (ls : Array Slot), X1_measure_b28 x1 t0 t1 S Q k2 → va_P D vwCl (zWS k a S) H → va_S (zA a s.heap.size) s.heap H locs → lv_has ls 4 [(0, .ref (a 3)), (1, .int x1)] → zWv p l e (headSpec wsX1_measure rm_X1_measure).room s m ([.ref (a 3)] : List Value) below meth c D k a Q H locs (F0 m 28 ls [.int t0, .int t1, .ref (a 34)]) := by
        intro x1 t0 t1 S H locs ls hm hP hS hl
        unfold X1_measure_b28 at hm
        obtain ⟨h_28, hm⟩ := hm
        refine z_iast hx hb hj hK hP hS zI_34 h_28 dX1_measure_28 (fun H locs hP hS => ?_)
        obtain ⟨S_28, eS_28⟩ : ∃ z : ZS, z = zu S 34 (t1).toNatClampNeg t0 := ⟨_, rfl⟩
        rw [← eS_28] at hP
        have hm := hm S_28 eS_28
        refine lv_aload_n hx hb dX1_measure_29 rfl (lv_at hl 0 rfl) ?_
        refine zg_1_arcTo hx hb hts i1 hown hK hP (hts _ (List.mem_of_getElem? (i := 4) rfl)) dX1_measure_30 ?_
        refine lv_iload_n hx hb dX1_measure_33 rfl (lv_at hl 1 rfl) ?_
        refine lv_iconst (v := (-1 : Int32)) hx hb dX1_measure_34 (by decide) ?_
        obtain ⟨h_35, hm⟩ := hm
        refine z_iast hx hb hj hK hP hS zI_35 h_35 dX1_measure_35 (fun H locs hP hS => ?_)
        obtain ⟨S_35, eS_35⟩ : ∃ z : ZS, z = zu S_28 35 (x1).toNatClampNeg (-1 : Int32) := ⟨_, rfl⟩
        rw [← eS_35] at hP
        have hm := hm S_35 eS_35
        obtain ⟨x1_36, ex1_36⟩ : ∃ y : Int32, y = x1 + (1 : Int32) := ⟨_, rfl⟩
        have hm := hm x1_36 ex1_36
        refine lv_iinc (v := x1_36) (lv' := [(1, .int x1_36), (0, .ref (a 3))]) hx hb dX1_measure_36 hl (k := 1) rfl (by rw [ex1_36]; rfl) (by decide) rfl (fun ls hl => ?_)
        refine lv_goto (tgt := 2) hx hb dX1_measure_39 (by decide) ?_
        exact ih2 x1_36 S_35 _ _ _ hm hP hS (lv_sub hl [1, 0] rfl)
      refine lv_iload_n hx hb dX1_measure_2 rfl (lv_at hl 1 rfl) ?_
      refine lv_bipush (v := (9 : Int32)) hx hb dX1_measure_3 (by decide) ?_
      refine lv_icmp_ge (tgt := 42) hx hb dX1_measure_5 (by decide) (fun c_5 => ?_) (fun c_5 => ?_)
      · have hm := hm.1 c_5
        exact b42  S _ _ _ hm hP hS (lv_sub hl [0] rfl)
      · have hm := hm.2 c_5
        refine lv_aload_n hx hb dX1_measure_8 rfl (lv_at hl 0 rfl) ?_
        refine zg_1_distance hx hb hts i1 hown hK hP (hts _ (List.mem_of_getElem? (i := 1) rfl)) dX1_measure_9 ?_
        refine lv_iload_n hx hb dX1_measure_12 rfl (lv_at hl 1 rfl) ?_
        refine lv_aload_n hx hb dX1_measure_13 rfl (lv_at hl 0 rfl) ?_
        refine zg_1_need hx hb hts i1 hown hK hP (hts _ (List.mem_of_getElem? (i := 2) rfl)) dX1_measure_14 ?_
        refine lv_iload_n hx hb dX1_measure_17 rfl (lv_at hl 1 rfl) ?_
        obtain ⟨h_18, hm⟩ := hm
        refine z_iald hx hb hK hP zI_33 h_18 dX1_measure_18 ?_
        refine lv_if_ge (tgt := 26) hx hb dX1_measure_19 (by decide) (fun c_19 => ?_) (fun c_19 => ?_)
        · have hm := hm.1 c_19
          refine lv_ldc (v := (1000000000 : Int32)) hx hb hown (hts _ (List.mem_of_getElem? (i := 3) rfl)) dX1_measure_26 ?_
          exact b28 x1 (1000000000 : Int32) x1 S _ _ _ hm hP hS (lv_sub hl [0, 1] rfl)
        · have hm := hm.2 c_19
          refine lv_iconst (v := (0 : Int32)) hx hb dX1_measure_22 (by decide) ?_
          refine lv_goto (tgt := 28) hx hb dX1_measure_23 (by decide) ?_
          exact b28 x1 (0 : Int32) x1 S _ _ _ hm hP hS (lv_sub hl [0, 1] rfl)
  unfold X1_measure at hm
  refine lv_iconst (v := (0 : Int32)) hx hb dX1_measure_0 (by decide) ?_
  refine lv_istore_n (lv' := [(1, .int (0 : Int32)), (0, .ref (a 3))]) hx hb dX1_measure_1 rfl hl (by decide) rfl (fun ls hl => ?_)
  obtain ⟨n2, hm⟩ := hm
  exact L2 n2 (0 : Int32) S _ _ _ hm hP hS (lv_sub hl [1, 0] rfl)

abbrev rm_X1_nearestNeed : Room := { frames := 0, cells := 0, slots := 0, locals := 0 }
def X1_nearestNeed_b47 (x1 : Int32) (S : ZS) (Q : Int32 → ZS → Prop) : Prop :=
  Q x1 S
def X1_nearestNeed_b41 (x1 : Int32) (x2 : Int32) (x3 : Int32) (S : ZS) (Q : Int32 → ZS → Prop) (k7 : Int32 × Int32 × Int32 × ZS → Prop) : Prop :=
  ∀ x3_41 : Int32, x3_41 = x3 + (1 : Int32) → k7 (x1, x2, x3_41, S)
def X1_nearestNeed_B7 (x1 : Int32) (x2 : Int32) (x3 : Int32) (S : ZS) (Q : Int32 → ZS → Prop) (k7 : Int32 × Int32 × Int32 × ZS → Prop) : Prop :=
  ((9 : Int32) ≤ x3 → X1_nearestNeed_b47 x1 S Q) ∧ (¬ (9 : Int32) ≤ x3 → vp_in x3 9 ∧ ((S.1 33 (x3).toNatClampNeg) ≤ 0 → X1_nearestNeed_b41 x1 x2 x3 S Q k7) ∧ (¬ (S.1 33 (x3).toNatClampNeg) ≤ 0 → vp_in x3 9 ∧ (x2 ≤ (S.1 34 (x3).toNatClampNeg) → X1_nearestNeed_b41 x1 x2 x3 S Q k7) ∧ (¬ x2 ≤ (S.1 34 (x3).toNatClampNeg) → vp_in x3 9 ∧ ∀ x2_40 : Int32, x2_40 = (S.1 34 (x3).toNatClampNeg) → X1_nearestNeed_b41 x3 x2_40 x3 S Q k7)))
def X1_nearestNeed_L7 (Q : Int32 → ZS → Prop) : (Int32 × Int32 × Int32 × ZS) → ((Int32 × Int32 × Int32 × ZS) → Prop) → Prop := fun st k7 => X1_nearestNeed_B7 st.1 st.2.1 st.2.2.1 st.2.2.2 Q k7
def X1_nearestNeed (S : ZS) (Q : Int32 → ZS → Prop) : Prop :=
  zl (X1_nearestNeed_L7 Q) ((-1 : Int32), (1000000000 : Int32), (0 : Int32), S)
set_option maxHeartbeats 4000000 in
set_option maxRecDepth 100000 in
theorem c_X1_nearestNeed (l : Launch) (D : va_G) (k : Nat → ClassId) (a : Nat → Nat) (hj : zDj a) (S : ZS) (Q : Int32 → ZS → Prop) (hm : X1_nearestNeed S Q) (sz : Nat) : Met l yX1_nearestNeed wsX1_nearestNeed rm_X1_nearestNeed (zPc D k a [.ref (a 3)] S sz) (va_Qi Q (zB D k a) (zA a sz)) 0 0 (zA a sz) := by
  refine Met.ofW (cc := cX1_nearestNeed) (maxL := 4) (ret := (some .int)) (by decide) rfl ?_
  intro p e s m args below meth c s₁ B hml hv
  obtain ⟨rfl, hsz, hP, hK⟩ := hv
  have hx := B.exec
  have hb := B.bytes
  have hr := B.returns
  have hts := atoms_spec (ws := wsX1_nearestNeed) B.pre
  have hown : s.vm.findClass RX1 = some m.cls := findClass_of_methodNamed B.named
  have hlocks := B.notSynchronized
  subst hsz
  have hS : va_S (zA a s.heap.size) s.heap s.heap [] := va_S.rf
  have hF : CallFix p m c cX1_nearestNeed 4 s _ wsX1_nearestNeed RX1 := ⟨hx, hb, hml, hown, hts⟩
  have i1 : ∀ w ∈ wsX10, w ∈ wsX1_nearestNeed := fun _ h => (List.mem_cons_of_mem _ (List.mem_append_right _ h))
  have hl := lv_entry ([.ref (a 3)]) (n := 4) (Nat.le_of_ble_eq_true rfl)
  rw [lg_entry_eq]
  generalize (lg_sl ([.ref (a 3)]) ++ List.replicate (4 - (lg_sl ([.ref (a 3)])).length) Slot.unset).toArray = ls at hl ⊢
  have hl : lv_has ls 4 [(0, .ref (a 3))] := hl
  have b47 : ∀ (x1 : Int32) (S : ZS) (H : Heap) (locs : List Loc) (ls : Array Slot), X1_nearestNeed_b47 x1 S Q → va_P D vwCl (zWS k a S) H → va_S (zA a s.heap.size) s.heap H locs → lv_has ls 4 [(0, .ref (a 3)), (1, .int x1)] → zWi p l e (headSpec wsX1_nearestNeed rm_X1_nearestNeed).room s m ([.ref (a 3)] : List Value) below meth c D k a Q H locs (F0 m 47 ls []) := by
    intro x1 S H locs ls hm hP hS hl
    unfold X1_nearestNeed_b47 at hm
    refine lv_iload_n hx hb dX1_nearestNeed_47 rfl (lv_at hl 1 rfl) ?_
    exact z_reti hx hb hr hlocks hP hS hm dX1_nearestNeed_48
  have L7 : ∀ (n : Nat) (x1 : Int32) (x2 : Int32) (x3 : Int32) (S : ZS) (H : Heap) (locs : List Loc) (ls : Array Slot), zn (X1_nearestNeed_L7 Q) n (x1, x2, x3, S) → va_P D vwCl (zWS k a S) H → va_S (zA a s.heap.size) s.heap H locs → lv_has ls 4 [(0, .ref (a 3)), (1, .int x1), (2, .int x2), (3, .int x3)] → zWi p l e (headSpec wsX1_nearestNeed rm_X1_nearestNeed).room s m ([.ref (a 3)] : List Value) below meth c D k a Q H locs (F0 m 7 ls []) := by
    intro n
    induction n with
    | zero =>
      intro x1 x2 x3 S H locs ls hm
      exact hm.elim
    | succ n ih7 =>
      intro x1 x2 x3 S H locs ls hm hP hS hl
      have hm : X1_nearestNeed_B7 x1 x2 x3 S Q (zn (X1_nearestNeed_L7 Q) n) := hm
      generalize zn (X1_nearestNeed_L7 Q) n = k7 at hm ih7
      unfold X1_nearestNeed_B7 at hm
      have b41 : ∀ (x1 : Int32) (x2 : Int32) (x3 : Int32) (S : ZS) (H : Heap) (locs : List Loc) (ls : Array Slot), X1_nearestNeed_b41 x1 x2 x3 S Q k7 → va_P D vwCl (zWS k a S) H → va_S (zA a s.heap.size) s.heap H locs → lv_has ls 4 [(0, .ref (a 3)), (1, .int x1), (2, .int x2), (3, .int x3)] → zWi p l e (headSpec wsX1_nearestNeed rm_X1_nearestNeed).room s m ([.ref (a 3)] : List Value) below meth c D k a Q H locs (F0 m 41 ls []) := by
        intro x1 x2 x3 S H locs ls hm hP hS hl
        unfold X1_nearestNeed_b41 at hm
        obtain ⟨x3_41, ex3_41⟩ : ∃ y : Int32, y = x3 + (1 : Int32) := ⟨_, rfl⟩
        have hm := hm x3_41 ex3_41
        refine lv_iinc (v := x3_41) (lv' := [(3, .int x3_41), (0, .ref (a 3)), (1, .int x1), (2, .int x2)]) hx hb dX1_nearestNeed_41 hl (k := 3) rfl (by rw [ex3_41]; rfl) (by decide) rfl (fun ls hl => ?_)
        refine lv_goto (tgt := 7) hx hb dX1_nearestNeed_44 (by decide) ?_
        exact ih7 x1 x2 x3_41 S _ _ _ hm hP hS (lv_sub hl [1, 2, 3, 0] rfl)
      refine lv_iload_n hx hb dX1_nearestNeed_7 rfl (lv_at hl 3 rfl) ?_
      refine lv_bipush (v := (9 : Int32)) hx hb dX1_nearestNeed_8 (by decide) ?_
      refine lv_icmp_ge (tgt := 47) hx hb dX1_nearestNeed_10 (by decide) (fun c_10 => ?_) (fun c_10 => ?_)
      · have hm := hm.1 c_10
        exact b47 x1 S _ _ _ hm hP hS (lv_sub hl [0, 1] rfl)
      · have hm := hm.2 c_10
        refine lv_aload_n hx hb dX1_nearestNeed_13 rfl (lv_at hl 0 rfl) ?_
        refine zg_1_need hx hb hts i1 hown hK hP (hts _ (List.mem_of_getElem? (i := 2) rfl)) dX1_nearestNeed_14 ?_
        refine lv_iload_n hx hb dX1_nearestNeed_17 rfl (lv_at hl 3 rfl) ?_
        obtain ⟨h_18, hm⟩ := hm
        refine z_iald hx hb hK hP zI_33 h_18 dX1_nearestNeed_18 ?_
        refine lv_if_le (tgt := 41) hx hb dX1_nearestNeed_19 (by decide) (fun c_19 => ?_) (fun c_19 => ?_)
        · have hm := hm.1 c_19
          exact b41 x1 x2 x3 S _ _ _ hm hP hS (lv_sub hl [0, 1, 2, 3] rfl)
        · have hm := hm.2 c_19
          refine lv_aload_n hx hb dX1_nearestNeed_22 rfl (lv_at hl 0 rfl) ?_
          refine zg_1_distance hx hb hts i1 hown hK hP (hts _ (List.mem_of_getElem? (i := 3) rfl)) dX1_nearestNeed_23 ?_
          refine lv_iload_n hx hb dX1_nearestNeed_26 rfl (lv_at hl 3 rfl) ?_
          obtain ⟨h_27, hm⟩ := hm
          refine z_iald hx hb hK hP zI_34 h_27 dX1_nearestNeed_27 ?_
          refine lv_iload_n hx hb dX1_nearestNeed_28 rfl (lv_at hl 2 rfl) ?_
          refine lv_icmp_ge (tgt := 41) hx hb dX1_nearestNeed_29 (by decide) (fun c_29 => ?_) (fun c_29 => ?_)
          · have hm := hm.1 c_29
            exact b41 x1 x2 x3 S _ _ _ hm hP hS (lv_sub hl [0, 1, 2, 3] rfl)
          · have hm := hm.2 c_29
            refine lv_iload_n hx hb dX1_nearestNeed_32 rfl (lv_at hl 3 rfl) ?_
            refine lv_istore_n (lv' := [(1, .int x3), (0, .ref (a 3)), (2, .int x2), (3, .int x3)]) hx hb dX1_nearestNeed_33 rfl hl (by decide) rfl (fun ls hl => ?_)
            refine lv_aload_n hx hb dX1_nearestNeed_34 rfl (lv_at hl 1 rfl) ?_
            refine zg_1_distance hx hb hts i1 hown hK hP (hts _ (List.mem_of_getElem? (i := 3) rfl)) dX1_nearestNeed_35 ?_
            refine lv_iload_n hx hb dX1_nearestNeed_38 rfl (lv_at hl 3 rfl) ?_
            obtain ⟨h_39, hm⟩ := hm
            refine z_iald hx hb hK hP zI_34 h_39 dX1_nearestNeed_39 ?_
            refine lv_topi (fun x2_40 ex2_40 => ?_)
            have hm := hm x2_40 ex2_40
            refine lv_istore_n (lv' := [(2, .int x2_40), (1, .int x3), (0, .ref (a 3)), (3, .int x3)]) hx hb dX1_nearestNeed_40 rfl hl (by decide) rfl (fun ls hl => ?_)
            exact b41 x3 x2_40 x3 S _ _ _ hm hP hS (lv_sub hl [2, 1, 0, 3] rfl)
  unfold X1_nearestNeed at hm
  refine lv_iconst (v := (-1 : Int32)) hx hb dX1_nearestNeed_0 (by decide) ?_
  refine lv_istore_n (lv' := [(1, .int (-1 : Int32)), (0, .ref (a 3))]) hx hb dX1_nearestNeed_1 rfl hl (by decide) rfl (fun ls hl => ?_)
  refine lv_ldc (v := (1000000000 : Int32)) hx hb hown (hts _ (List.mem_of_getElem? (i := 1) rfl)) dX1_nearestNeed_2 ?_
  refine lv_istore_n (lv' := [(2, .int (1000000000 : Int32)), (1, .int (-1 : Int32)), (0, .ref (a 3))]) hx hb dX1_nearestNeed_4 rfl hl (by decide) rfl (fun ls hl => ?_)
  refine lv_iconst (v := (0 : Int32)) hx hb dX1_nearestNeed_5 (by decide) ?_
  refine lv_istore_n (lv' := [(3, .int (0 : Int32)), (2, .int (1000000000 : Int32)), (1, .int (-1 : Int32)), (0, .ref (a 3))]) hx hb dX1_nearestNeed_6 rfl hl (by decide) rfl (fun ls hl => ?_)
  obtain ⟨n7, hm⟩ := hm
  exact L7 n7 (-1 : Int32) (1000000000 : Int32) (0 : Int32) S _ _ _ hm hP hS (lv_sub hl [3, 2, 1, 0] rfl)

abbrev rm_X1_nodeBefore : Room := { frames := 0, cells := 0, slots := 0, locals := 0 }
def X1_nodeBefore_b31 (t0 : Int32) (S : ZS) (Q : Int32 → ZS → Prop) : Prop :=
  Q t0 S
def X1_nodeBefore (y1 : Int32) (S : ZS) (Q : Int32 → ZS → Prop) : Prop :=
  vp_in y1 9 ∧ ∀ x2_6 : Int32, x2_6 = (S.1 35 (y1).toNatClampNeg) → vp_in y1 9 ∧ ((S.1 36 (y1).toNatClampNeg) = 0 → vp_in x2_6 18 ∧ X1_nodeBefore_b31 (S.1 26 (x2_6).toNatClampNeg) S Q) ∧ (¬ (S.1 36 (y1).toNatClampNeg) = 0 → vp_in x2_6 18 ∧ X1_nodeBefore_b31 (S.1 27 (x2_6).toNatClampNeg) S Q)
set_option maxHeartbeats 4000000 in
set_option maxRecDepth 100000 in
theorem c_X1_nodeBefore (l : Launch) (D : va_G) (k : Nat → ClassId) (a : Nat → Nat) (hj : zDj a) (y1 : Int32) (S : ZS) (Q : Int32 → ZS → Prop) (hm : X1_nodeBefore y1 S Q) (sz : Nat) : Met l yX1_nodeBefore wsX1_nodeBefore rm_X1_nodeBefore (zPc D k a [.ref (a 3), .int y1] S sz) (va_Qi Q (zB D k a) (zA a sz)) 0 0 (zA a sz) := by
  refine Met.ofW (cc := cX1_nodeBefore) (maxL := 3) (ret := (some .int)) (by decide) rfl ?_
  intro p e s m args below meth c s₁ B hml hv
  obtain ⟨rfl, hsz, hP, hK⟩ := hv
  have hx := B.exec
  have hb := B.bytes
  have hr := B.returns
  have hts := atoms_spec (ws := wsX1_nodeBefore) B.pre
  have hown : s.vm.findClass RX1 = some m.cls := findClass_of_methodNamed B.named
  have hlocks := B.notSynchronized
  subst hsz
  have hS : va_S (zA a s.heap.size) s.heap s.heap [] := va_S.rf
  have hF : CallFix p m c cX1_nodeBefore 3 s _ wsX1_nodeBefore RX1 := ⟨hx, hb, hml, hown, hts⟩
  have i1 : ∀ w ∈ wsX10, w ∈ wsX1_nodeBefore := fun _ h => (List.mem_cons_of_mem _ (List.mem_append_right _ h))
  have hl := lv_entry ([.ref (a 3), .int y1]) (n := 3) (Nat.le_of_ble_eq_true rfl)
  rw [lg_entry_eq]
  generalize (lg_sl ([.ref (a 3), .int y1]) ++ List.replicate (3 - (lg_sl ([.ref (a 3), .int y1])).length) Slot.unset).toArray = ls at hl ⊢
  have hl : lv_has ls 3 [(0, .ref (a 3)), (1, .int y1)] := hl
  have b31 : ∀ (t0 : Int32) (S : ZS) (H : Heap) (locs : List Loc) (ls : Array Slot), X1_nodeBefore_b31 t0 S Q → va_P D vwCl (zWS k a S) H → va_S (zA a s.heap.size) s.heap H locs → lv_has ls 3 [(0, .ref (a 3))] → zWi p l e (headSpec wsX1_nodeBefore rm_X1_nodeBefore).room s m ([.ref (a 3), .int y1] : List Value) below meth c D k a Q H locs (F0 m 31 ls [.int t0]) := by
    intro t0 S H locs ls hm hP hS hl
    unfold X1_nodeBefore_b31 at hm
    exact z_reti hx hb hr hlocks hP hS hm dX1_nodeBefore_31
  unfold X1_nodeBefore at hm
  refine lv_aload_n hx hb dX1_nodeBefore_0 rfl (lv_at hl 0 rfl) ?_
  refine zg_1_arcTo hx hb hts i1 hown hK hP (hts _ (List.mem_of_getElem? (i := 1) rfl)) dX1_nodeBefore_1 ?_
  refine lv_iload_n hx hb dX1_nodeBefore_4 rfl (lv_at hl 1 rfl) ?_
  obtain ⟨h_5, hm⟩ := hm
  refine z_iald hx hb hK hP zI_35 h_5 dX1_nodeBefore_5 ?_
  refine lv_topi (fun x2_6 ex2_6 => ?_)
  have hm := hm x2_6 ex2_6
  refine lv_istore_n (lv' := [(2, .int x2_6), (0, .ref (a 3)), (1, .int y1)]) hx hb dX1_nodeBefore_6 rfl hl (by decide) rfl (fun ls hl => ?_)
  refine lv_aload_n hx hb dX1_nodeBefore_7 rfl (lv_at hl 1 rfl) ?_
  refine zg_1_raises hx hb hts i1 hown hK hP (hts _ (List.mem_of_getElem? (i := 2) rfl)) dX1_nodeBefore_8 ?_
  refine lv_iload_n hx hb dX1_nodeBefore_11 rfl (lv_at hl 2 rfl) ?_
  obtain ⟨h_12, hm⟩ := hm
  refine z_zald hx hb hK hP zZ_36 h_12 dX1_nodeBefore_12 ?_
  refine lv_if_eq (tgt := 25) hx hb dX1_nodeBefore_13 (by decide) (fun c_13 => ?_) (fun c_13 => ?_)
  · have hm := hm.1 c_13
    refine lv_aload_n hx hb dX1_nodeBefore_25 rfl (lv_at hl 1 rfl) ?_
    refine zg_1_upper hx hb hts i1 hown hK hP (hts _ (List.mem_of_getElem? (i := 4) rfl)) dX1_nodeBefore_26 ?_
    refine lv_iload_n hx hb dX1_nodeBefore_29 rfl (lv_at hl 0 rfl) ?_
    obtain ⟨h_30, hm⟩ := hm
    refine z_iald hx hb hK hP zI_26 h_30 dX1_nodeBefore_30 ?_
    exact b31 (S.1 26 (x2_6).toNatClampNeg) S _ _ _ hm hP hS (lv_sub hl [1] rfl)
  · have hm := hm.2 c_13
    refine lv_aload_n hx hb dX1_nodeBefore_16 rfl (lv_at hl 1 rfl) ?_
    refine zg_1_lower hx hb hts i1 hown hK hP (hts _ (List.mem_of_getElem? (i := 3) rfl)) dX1_nodeBefore_17 ?_
    refine lv_iload_n hx hb dX1_nodeBefore_20 rfl (lv_at hl 0 rfl) ?_
    obtain ⟨h_21, hm⟩ := hm
    refine z_iald hx hb hK hP zI_27 h_21 dX1_nodeBefore_21 ?_
    refine lv_goto (tgt := 31) hx hb dX1_nodeBefore_22 (by decide) ?_
    exact b31 (S.1 27 (x2_6).toNatClampNeg) S _ _ _ hm hP hS (lv_sub hl [1] rfl)

abbrev rm_X1_pushTo : Room := { frames := 1, cells := 0, slots := 0, locals := 22 }
def X1_pushTo_b195 (S : ZS) (Q : ZS → Prop) : Prop :=
  Q S
def X1_pushTo_b181 (x2 : Int32) (x3 : Int32) (x4 : Int32) (t0 : Int32) (t1 : Int32) (t2 : Int32) (S : ZS) (Q : ZS → Prop) (k137 : Int32 × Int32 × ZS → Prop) : Prop :=
  vp_in t2 18 ∧ ∀ S_182 : ZS, S_182 = zu S 31 (t2).toNatClampNeg (t1 + t0) → X1_nodeBefore x3 S_182 (fun r_185 S_185 => ∀ x4_189 : Int32, x4_189 = x4 + (1 : Int32) → k137 (r_185, x4_189, S_185))
def X1_pushTo_B137 (x2 : Int32) (x3 : Int32) (x4 : Int32) (S : ZS) (Q : ZS → Prop) (k137 : Int32 × Int32 × ZS → Prop) : Prop :=
  ((9 : Int32) ≤ x4 → X1_pushTo_b195 S Q) ∧ (¬ (9 : Int32) ≤ x4 → vp_in x3 9 ∧ ((S.1 35 (x3).toNatClampNeg) = (-1 : Int32) → X1_pushTo_b195 S Q) ∧ (¬ (S.1 35 (x3).toNatClampNeg) = (-1 : Int32) → vp_in x3 9 ∧ vp_in (S.1 35 (x3).toNatClampNeg) 18 ∧ vp_in x3 9 ∧ ((S.1 36 (x3).toNatClampNeg) = 0 → X1_pushTo_b181 x2 x3 x4 (-x2) (S.1 31 ((S.1 35 (x3).toNatClampNeg)).toNatClampNeg) (S.1 35 (x3).toNatClampNeg) S Q k137) ∧ (¬ (S.1 36 (x3).toNatClampNeg) = 0 → X1_pushTo_b181 x2 x3 x4 x2 (S.1 31 ((S.1 35 (x3).toNatClampNeg)).toNatClampNeg) (S.1 35 (x3).toNatClampNeg) S Q k137)))
def X1_pushTo_L137 (x2 : Int32) (Q : ZS → Prop) : (Int32 × Int32 × ZS) → ((Int32 × Int32 × ZS) → Prop) → Prop := fun st k137 => X1_pushTo_B137 x2 st.1 st.2.1 st.2.2 Q k137
def X1_pushTo_b100 (x1 : Int32) (x2 : Int32) (x3 : Int32) (S : ZS) (Q : ZS → Prop) : Prop :=
  vp_in x3 9 ∧ ∀ x2_111 : Int32, x2_111 = (if (-(S.1 33 (x3).toNatClampNeg)) < x2 then (-(S.1 33 (x3).toNatClampNeg)) else x2) → vp_in x3 9 ∧ vp_in x3 9 ∧ ∀ S_121 : ZS, S_121 = zu S 33 (x3).toNatClampNeg ((S.1 33 (x3).toNatClampNeg) + x2_111) → vp_in x1 9 ∧ vp_in x1 9 ∧ ∀ S_131 : ZS, S_131 = zu S_121 33 (x1).toNatClampNeg ((S_121.1 33 (x1).toNatClampNeg) - x2_111) → zl (X1_pushTo_L137 x2_111 Q) (x1, (0 : Int32), S_131)
def X1_pushTo_b79 (x1 : Int32) (x2 : Int32) (x3 : Int32) (x4 : Int32) (t0 : Int32) (S : ZS) (Q : ZS → Prop) (k12 : Int32 × Int32 × Int32 × ZS → Prop) : Prop :=
  ∀ x2_87 : Int32, x2_87 = (if t0 < x2 then t0 else x2) → X1_nodeBefore x3 S (fun r_90 S_90 => ∀ x4_94 : Int32, x4_94 = x4 + (1 : Int32) → k12 (x2_87, r_90, x4_94, S_90))
def X1_pushTo_B12 (x1 : Int32) (x2 : Int32) (x3 : Int32) (x4 : Int32) (S : ZS) (Q : ZS → Prop) (k12 : Int32 × Int32 × Int32 × ZS → Prop) : Prop :=
  ((9 : Int32) ≤ x4 → X1_pushTo_b100 x1 x2 x3 S Q) ∧ (¬ (9 : Int32) ≤ x4 → vp_in x3 9 ∧ ((S.1 35 (x3).toNatClampNeg) = (-1 : Int32) → X1_pushTo_b100 x1 x2 x3 S Q) ∧ (¬ (S.1 35 (x3).toNatClampNeg) = (-1 : Int32) → vp_in x3 9 ∧ ∀ x5_35 : Int32, x5_35 = (S.1 35 (x3).toNatClampNeg) → vp_in x3 9 ∧ ((S.1 36 (x3).toNatClampNeg) = 0 → vp_in x5_35 18 ∧ vp_in x5_35 18 ∧ X1_pushTo_b79 x1 x2 x3 x4 ((S.1 31 (x5_35).toNatClampNeg) - (S.1 28 (x5_35).toNatClampNeg)) S Q k12) ∧ (¬ (S.1 36 (x3).toNatClampNeg) = 0 → vp_in x5_35 18 ∧ vp_in x5_35 18 ∧ X1_pushTo_b79 x1 x2 x3 x4 ((S.1 29 (x5_35).toNatClampNeg) - (S.1 31 (x5_35).toNatClampNeg)) S Q k12)))
def X1_pushTo_L12 (x1 : Int32) (Q : ZS → Prop) : (Int32 × Int32 × Int32 × ZS) → ((Int32 × Int32 × Int32 × ZS) → Prop) → Prop := fun st k12 => X1_pushTo_B12 x1 st.1 st.2.1 st.2.2.1 st.2.2.2 Q k12
def X1_pushTo (y1 : Int32) (S : ZS) (Q : ZS → Prop) : Prop :=
  vp_in y1 9 ∧ ∀ x2_6 : Int32, x2_6 = (S.1 33 (y1).toNatClampNeg) → zl (X1_pushTo_L12 y1 Q) (x2_6, y1, (0 : Int32), S)
set_option maxHeartbeats 4000000 in
set_option maxRecDepth 100000 in
theorem c_X1_pushTo (l : Launch) (D : va_G) (k : Nat → ClassId) (a : Nat → Nat) (hj : zDj a) (y1 : Int32) (S : ZS) (Q : ZS → Prop) (hm : X1_pushTo y1 S Q) (sz : Nat) : Met l yX1_pushTo wsX1_pushTo rm_X1_pushTo (zPc D k a [.ref (a 3), .int y1] S sz) (va_Qv Q (zB D k a) (zA a sz)) 0 0 (zA a sz) := by
  refine Met.ofW (cc := cX1_pushTo) (maxL := 7) (ret := none) (by decide) rfl ?_
  intro p e s m args below meth c s₁ B hml hv
  obtain ⟨rfl, hsz, hP, hK⟩ := hv
  have hx := B.exec
  have hb := B.bytes
  have hr := B.returns
  have hts := atoms_spec (ws := wsX1_pushTo) B.pre
  have hown : s.vm.findClass RX1 = some m.cls := findClass_of_methodNamed B.named
  have hlocks := B.notSynchronized
  subst hsz
  have hS : va_S (zA a s.heap.size) s.heap s.heap [] := va_S.rf
  have hF : CallFix p m c cX1_pushTo 7 s _ wsX1_pushTo RX1 := ⟨hx, hb, hml, hown, hts⟩
  have i1 : ∀ w ∈ wsX10, w ∈ wsX1_pushTo := fun _ h => (List.mem_cons_of_mem _ (List.mem_append_right _ h))
  have hl := lv_entry ([.ref (a 3), .int y1]) (n := 7) (Nat.le_of_ble_eq_true rfl)
  rw [lg_entry_eq]
  generalize (lg_sl ([.ref (a 3), .int y1]) ++ List.replicate (7 - (lg_sl ([.ref (a 3), .int y1])).length) Slot.unset).toArray = ls at hl ⊢
  have hl : lv_has ls 7 [(0, .ref (a 3)), (1, .int y1)] := hl
  have b100 : ∀ (x1 : Int32) (x2 : Int32) (x3 : Int32) (S : ZS) (H : Heap) (locs : List Loc) (ls : Array Slot), X1_pushTo_b100 x1 x2 x3 S Q → va_P D vwCl (zWS k a S) H → va_S (zA a s.heap.size) s.heap H locs → lv_has ls 7 [(0, .ref (a 3)), (1, .int x1), (2, .int x2), (3, .int x3)] → zWv p l e (headSpec wsX1_pushTo rm_X1_pushTo).room s m ([.ref (a 3), .int y1] : List Value) below meth c D k a Q H locs (F0 m 100 ls []) := by
    intro x1 x2 x3 S H locs ls hm hP hS hl
    unfold X1_pushTo_b100 at hm
    have b195 : ∀ (S : ZS) (H : Heap) (locs : List Loc) (ls : Array Slot), X1_pushTo_b195 S Q → va_P D vwCl (zWS k a S) H → va_S (zA a s.heap.size) s.heap H locs → lv_has ls 7 [(0, .ref (a 3))] → zWv p l e (headSpec wsX1_pushTo rm_X1_pushTo).room s m ([.ref (a 3), .int y1] : List Value) below meth c D k a Q H locs (F0 m 195 ls []) := by
      intro S H locs ls hm hP hS hl
      unfold X1_pushTo_b195 at hm
      exact z_retv hx hb hr hlocks hP hS hm dX1_pushTo_195
    have L137 : ∀ (x2 : Int32) (n : Nat) (x3 : Int32) (x4 : Int32) (S : ZS) (H : Heap) (locs : List Loc) (ls : Array Slot), zn (X1_pushTo_L137 x2 Q) n (x3, x4, S) → va_P D vwCl (zWS k a S) H → va_S (zA a s.heap.size) s.heap H locs → lv_has ls 7 [(0, .ref (a 3)), (2, .int x2), (3, .int x3), (4, .int x4)] → zWv p l e (headSpec wsX1_pushTo rm_X1_pushTo).room s m ([.ref (a 3), .int y1] : List Value) below meth c D k a Q H locs (F0 m 137 ls []) := by
      intro x2 n
      induction n with
      | zero =>
        intro x3 x4 S H locs ls hm
        exact hm.elim
      | succ n ih137 =>
        intro x3 x4 S H locs ls hm hP hS hl
        have hm : X1_pushTo_B137 x2 x3 x4 S Q (zn (X1_pushTo_L137 x2 Q) n) := hm
        generalize zn (X1_pushTo_L137 x2 Q) n = k137 at hm ih137
        unfold X1_pushTo_B137 at hm
        have b181 : ∀ (x3 : Int32) (x4 : Int32) (t0 : Int32) (t1 : Int32) (t2 : Int32) (S : ZS) (H : Heap) (locs : List Loc) (ls : Array Slot), X1_pushTo_b181 x2 x3 x4 t0 t1 t2 S Q k137 → va_P D vwCl (zWS k a S) H → va_S (zA a s.heap.size) s.heap H locs → lv_has ls 7 [(0, .ref (a 3)), (2, .int x2), (3, .int x3), (4, .int x4)] → zWv p l e (headSpec wsX1_pushTo rm_X1_pushTo).room s m ([.ref (a 3), .int y1] : List Value) below meth c D k a Q H locs (F0 m 181 ls [.int t0, .int t1, .int t2, .ref (a 31)]) := by
          intro x3 x4 t0 t1 t2 S H locs ls hm hP hS hl
          unfold X1_pushTo_b181 at hm
          refine lv_iadd hx hb dX1_pushTo_181 ?_
          obtain ⟨h_182, hm⟩ := hm
          refine z_iast hx hb hj hK hP hS zI_31 h_182 dX1_pushTo_182 (fun H locs hP hS => ?_)
          obtain ⟨S_182, eS_182⟩ : ∃ z : ZS, z = zu S 31 (t2).toNatClampNeg (t1 + t0) := ⟨_, rfl⟩
          rw [← eS_182] at hP
          have hm := hm S_182 eS_182
          refine lv_aload_n hx hb dX1_pushTo_183 rfl (lv_at hl 0 rfl) ?_
          refine lv_iload_n hx hb dX1_pushTo_184 rfl (lv_at hl 2 rfl) ?_
          refine z_cVi (As := [.int x3]) (rest := []) hF hK hP hS zO_3 rfl rfl (c_X1_nodeBefore l D k a hj x3 S_182 _ hm _) (cwV 1 hts gX1_pushTo_X1_nodeBefore rfl rfl rfl (by decide +kernel) ⟨Nat.le_of_ble_eq_true rfl, Nat.le_of_ble_eq_true rfl⟩) rfl hl.1 rfl (Nat.le_of_ble_eq_true rfl) dX1_pushTo_185 ⟨Nat.zero_le _, Nat.zero_le _⟩ (fun r_185 S_185 H locs hm hP hS => ?_)
          refine lv_istore_n (lv' := [(3, .int r_185), (0, .ref (a 3)), (2, .int x2), (4, .int x4)]) hx hb dX1_pushTo_188 rfl hl (by decide) rfl (fun ls hl => ?_)
          obtain ⟨x4_189, ex4_189⟩ : ∃ y : Int32, y = x4 + (1 : Int32) := ⟨_, rfl⟩
          have hm := hm x4_189 ex4_189
          refine lv_iinc (v := x4_189) (lv' := [(4, .int x4_189), (3, .int r_185), (0, .ref (a 3)), (2, .int x2)]) hx hb dX1_pushTo_189 hl (k := 3) rfl (by rw [ex4_189]; rfl) (by decide) rfl (fun ls hl => ?_)
          refine lv_goto (tgt := 137) hx hb dX1_pushTo_192 (by decide) ?_
          exact ih137 r_185 x4_189 S_185 _ _ _ hm hP hS (lv_sub hl [2, 3, 1, 0] rfl)
        refine lv_iload hx hb dX1_pushTo_137 (lv_at hl 3 rfl) ?_
        refine lv_bipush (v := (9 : Int32)) hx hb dX1_pushTo_139 (by decide) ?_
        refine lv_icmp_ge (tgt := 195) hx hb dX1_pushTo_141 (by decide) (fun c_141 => ?_) (fun c_141 => ?_)
        · have hm := hm.1 c_141
          exact b195  S _ _ _ hm hP hS (lv_sub hl [0] rfl)
        · have hm := hm.2 c_141
          refine lv_aload_n hx hb dX1_pushTo_144 rfl (lv_at hl 0 rfl) ?_
          refine zg_1_arcTo hx hb hts i1 hown hK hP (hts _ (List.mem_of_getElem? (i := 2) rfl)) dX1_pushTo_145 ?_
          refine lv_iload_n hx hb dX1_pushTo_148 rfl (lv_at hl 2 rfl) ?_
          obtain ⟨h_149, hm⟩ := hm
          refine z_iald hx hb hK hP zI_35 h_149 dX1_pushTo_149 ?_
          refine lv_iconst (v := (-1 : Int32)) hx hb dX1_pushTo_150 (by decide) ?_
          refine lv_icmp_eq (tgt := 195) hx hb dX1_pushTo_151 (by decide) (fun c_151 => ?_) (fun c_151 => ?_)
          · have hm := hm.1 c_151
            exact b195  S _ _ _ hm hP hS (lv_sub hl [0] rfl)
          · have hm := hm.2 c_151
            refine lv_aload_n hx hb dX1_pushTo_154 rfl (lv_at hl 0 rfl) ?_
            refine zg_1_amount hx hb hts i1 hown hK hP (hts _ (List.mem_of_getElem? (i := 5) rfl)) dX1_pushTo_155 ?_
            refine lv_aload_n hx hb dX1_pushTo_158 rfl (lv_at hl 0 rfl) ?_
            refine zg_1_arcTo hx hb hts i1 hown hK hP (hts _ (List.mem_of_getElem? (i := 2) rfl)) dX1_pushTo_159 ?_
            refine lv_iload_n hx hb dX1_pushTo_162 rfl (lv_at hl 2 rfl) ?_
            obtain ⟨h_163, hm⟩ := hm
            refine z_iald hx hb hK hP zI_35 h_163 dX1_pushTo_163 ?_
            refine lv_dup2_11 hx hb dX1_pushTo_164 rfl rfl ?_
            obtain ⟨h_165, hm⟩ := hm
            refine z_iald hx hb hK hP zI_31 h_165 dX1_pushTo_165 ?_
            refine lv_aload_n hx hb dX1_pushTo_166 rfl (lv_at hl 0 rfl) ?_
            refine zg_1_raises hx hb hts i1 hown hK hP (hts _ (List.mem_of_getElem? (i := 3) rfl)) dX1_pushTo_167 ?_
            refine lv_iload_n hx hb dX1_pushTo_170 rfl (lv_at hl 2 rfl) ?_
            obtain ⟨h_171, hm⟩ := hm
            refine z_zald hx hb hK hP zZ_36 h_171 dX1_pushTo_171 ?_
            refine lv_if_eq (tgt := 179) hx hb dX1_pushTo_172 (by decide) (fun c_172 => ?_) (fun c_172 => ?_)
            · have hm := hm.1 c_172
              refine lv_iload_n hx hb dX1_pushTo_179 rfl (lv_at hl 1 rfl) ?_
              refine lv_ineg hx hb dX1_pushTo_180 ?_
              exact b181 x3 x4 (-x2) (S.1 31 ((S.1 35 (x3).toNatClampNeg)).toNatClampNeg) (S.1 35 (x3).toNatClampNeg) S _ _ _ hm hP hS (lv_sub hl [0, 1, 2, 3] rfl)
            · have hm := hm.2 c_172
              refine lv_iload_n hx hb dX1_pushTo_175 rfl (lv_at hl 1 rfl) ?_
              refine lv_goto (tgt := 181) hx hb dX1_pushTo_176 (by decide) ?_
              exact b181 x3 x4 x2 (S.1 31 ((S.1 35 (x3).toNatClampNeg)).toNatClampNeg) (S.1 35 (x3).toNatClampNeg) S _ _ _ hm hP hS (lv_sub hl [0, 1, 2, 3] rfl)
    refine lv_iload_n hx hb dX1_pushTo_100 rfl (lv_at hl 2 rfl) ?_
    refine lv_aload_n hx hb dX1_pushTo_101 rfl (lv_at hl 0 rfl) ?_
    refine zg_1_need hx hb hts i1 hown hK hP (hts _ (List.mem_of_getElem? (i := 1) rfl)) dX1_pushTo_102 ?_
    refine lv_iload_n hx hb dX1_pushTo_105 rfl (lv_at hl 3 rfl) ?_
    obtain ⟨h_106, hm⟩ := hm
    refine z_iald hx hb hK hP zI_33 h_106 dX1_pushTo_106 ?_
    refine lv_ineg hx hb dX1_pushTo_107 ?_
    refine va_mmin hx hb (hml.trans hl.1.symm) hown (hts _ (List.mem_of_getElem? (i := 7) rfl)) (hts _ (List.mem_of_getElem? (i := 8) rfl)) (hts _ (List.mem_of_getElem? (i := 9) rfl)) (hts _ (List.mem_of_getElem? (i := 10) rfl)) (Nat.le_of_ble_eq_true rfl) (Nat.le_of_ble_eq_true rfl) (Nat.zero_le _) (Nat.zero_le _) dX1_pushTo_108 ?_
    refine lv_topi (fun x2_111 ex2_111 => ?_)
    have hm := hm x2_111 ex2_111
    refine lv_istore_n (lv' := [(2, .int x2_111), (0, .ref (a 3)), (1, .int x1), (3, .int x3)]) hx hb dX1_pushTo_111 rfl hl (by decide) rfl (fun ls hl => ?_)
    refine lv_aload_n hx hb dX1_pushTo_112 rfl (lv_at hl 1 rfl) ?_
    refine zg_1_need hx hb hts i1 hown hK hP (hts _ (List.mem_of_getElem? (i := 1) rfl)) dX1_pushTo_113 ?_
    refine lv_iload_n hx hb dX1_pushTo_116 rfl (lv_at hl 3 rfl) ?_
    refine lv_dup2_11 hx hb dX1_pushTo_117 rfl rfl ?_
    obtain ⟨h_118, hm⟩ := hm
    refine z_iald hx hb hK hP zI_33 h_118 dX1_pushTo_118 ?_
    refine lv_iload_n hx hb dX1_pushTo_119 rfl (lv_at hl 0 rfl) ?_
    refine lv_iadd hx hb dX1_pushTo_120 ?_
    obtain ⟨h_121, hm⟩ := hm
    refine z_iast hx hb hj hK hP hS zI_33 h_121 dX1_pushTo_121 (fun H locs hP hS => ?_)
    obtain ⟨S_121, eS_121⟩ : ∃ z : ZS, z = zu S 33 (x3).toNatClampNeg ((S.1 33 (x3).toNatClampNeg) + x2_111) := ⟨_, rfl⟩
    rw [← eS_121] at hP
    have hm := hm S_121 eS_121
    refine lv_aload_n hx hb dX1_pushTo_122 rfl (lv_at hl 1 rfl) ?_
    refine zg_1_need hx hb hts i1 hown hK hP (hts _ (List.mem_of_getElem? (i := 1) rfl)) dX1_pushTo_123 ?_
    refine lv_iload_n hx hb dX1_pushTo_126 rfl (lv_at hl 2 rfl) ?_
    refine lv_dup2_11 hx hb dX1_pushTo_127 rfl rfl ?_
    obtain ⟨h_128, hm⟩ := hm
    refine z_iald hx hb hK hP zI_33 h_128 dX1_pushTo_128 ?_
    refine lv_iload_n hx hb dX1_pushTo_129 rfl (lv_at hl 0 rfl) ?_
    refine lv_isub hx hb dX1_pushTo_130 ?_
    obtain ⟨h_131, hm⟩ := hm
    refine z_iast hx hb hj hK hP hS zI_33 h_131 dX1_pushTo_131 (fun H locs hP hS => ?_)
    obtain ⟨S_131, eS_131⟩ : ∃ z : ZS, z = zu S_121 33 (x1).toNatClampNeg ((S_121.1 33 (x1).toNatClampNeg) - x2_111) := ⟨_, rfl⟩
    rw [← eS_131] at hP
    have hm := hm S_131 eS_131
    refine lv_iload_n hx hb dX1_pushTo_132 rfl (lv_at hl 2 rfl) ?_
    refine lv_istore_n (lv' := [(3, .int x1), (2, .int x2_111), (0, .ref (a 3)), (1, .int x1)]) hx hb dX1_pushTo_133 rfl hl (by decide) rfl (fun ls hl => ?_)
    refine lv_iconst (v := (0 : Int32)) hx hb dX1_pushTo_134 (by decide) ?_
    refine lv_istore (lv' := [(4, .int (0 : Int32)), (3, .int x1), (2, .int x2_111), (0, .ref (a 3)), (1, .int x1)]) hx hb dX1_pushTo_135 hl (by decide) rfl (fun ls hl => ?_)
    obtain ⟨n137, hm⟩ := hm
    exact L137 x2_111 n137 x1 (0 : Int32) S_131 _ _ _ hm hP hS (lv_sub hl [3, 2, 1, 0] rfl)
  have L12 : ∀ (x1 : Int32) (n : Nat) (x2 : Int32) (x3 : Int32) (x4 : Int32) (S : ZS) (H : Heap) (locs : List Loc) (ls : Array Slot), zn (X1_pushTo_L12 x1 Q) n (x2, x3, x4, S) → va_P D vwCl (zWS k a S) H → va_S (zA a s.heap.size) s.heap H locs → lv_has ls 7 [(0, .ref (a 3)), (1, .int x1), (2, .int x2), (3, .int x3), (4, .int x4)] → zWv p l e (headSpec wsX1_pushTo rm_X1_pushTo).room s m ([.ref (a 3), .int y1] : List Value) below meth c D k a Q H locs (F0 m 12 ls []) := by
    intro x1 n
    induction n with
    | zero =>
      intro x2 x3 x4 S H locs ls hm
      exact hm.elim
    | succ n ih12 =>
      intro x2 x3 x4 S H locs ls hm hP hS hl
      have hm : X1_pushTo_B12 x1 x2 x3 x4 S Q (zn (X1_pushTo_L12 x1 Q) n) := hm
      generalize zn (X1_pushTo_L12 x1 Q) n = k12 at hm ih12
      unfold X1_pushTo_B12 at hm
      have b79 : ∀ (x2 : Int32) (x3 : Int32) (x4 : Int32) (t0 : Int32) (S : ZS) (H : Heap) (locs : List Loc) (ls : Array Slot), X1_pushTo_b79 x1 x2 x3 x4 t0 S Q k12 → va_P D vwCl (zWS k a S) H → va_S (zA a s.heap.size) s.heap H locs → lv_has ls 7 [(0, .ref (a 3)), (1, .int x1), (2, .int x2), (3, .int x3), (4, .int x4)] → zWv p l e (headSpec wsX1_pushTo rm_X1_pushTo).room s m ([.ref (a 3), .int y1] : List Value) below meth c D k a Q H locs (F0 m 79 ls [.int t0]) := by
        intro x2 x3 x4 t0 S H locs ls hm hP hS hl
        unfold X1_pushTo_b79 at hm
        refine lv_istore (lv' := [(6, .int t0), (0, .ref (a 3)), (1, .int x1), (2, .int x2), (3, .int x3), (4, .int x4)]) hx hb dX1_pushTo_79 hl (by decide) rfl (fun ls hl => ?_)
        refine lv_iload_n hx hb dX1_pushTo_81 rfl (lv_at hl 3 rfl) ?_
        refine lv_iload hx hb dX1_pushTo_82 (lv_at hl 0 rfl) ?_
        refine va_mmin hx hb (hml.trans hl.1.symm) hown (hts _ (List.mem_of_getElem? (i := 7) rfl)) (hts _ (List.mem_of_getElem? (i := 8) rfl)) (hts _ (List.mem_of_getElem? (i := 9) rfl)) (hts _ (List.mem_of_getElem? (i := 10) rfl)) (Nat.le_of_ble_eq_true rfl) (Nat.le_of_ble_eq_true rfl) (Nat.zero_le _) (Nat.zero_le _) dX1_pushTo_84 ?_
        refine lv_topi (fun x2_87 ex2_87 => ?_)
        have hm := hm x2_87 ex2_87
        refine lv_istore_n (lv' := [(2, .int x2_87), (6, .int t0), (0, .ref (a 3)), (1, .int x1), (3, .int x3), (4, .int x4)]) hx hb dX1_pushTo_87 rfl hl (by decide) rfl (fun ls hl => ?_)
        refine lv_aload_n hx hb dX1_pushTo_88 rfl (lv_at hl 2 rfl) ?_
        refine lv_iload_n hx hb dX1_pushTo_89 rfl (lv_at hl 4 rfl) ?_
        refine z_cVi (As := [.int x3]) (rest := []) hF hK hP hS zO_3 rfl rfl (c_X1_nodeBefore l D k a hj x3 S _ hm _) (cwV 1 hts gX1_pushTo_X1_nodeBefore rfl rfl rfl (by decide +kernel) ⟨Nat.le_of_ble_eq_true rfl, Nat.le_of_ble_eq_true rfl⟩) rfl hl.1 rfl (Nat.le_of_ble_eq_true rfl) dX1_pushTo_90 ⟨Nat.zero_le _, Nat.zero_le _⟩ (fun r_90 S_90 H locs hm hP hS => ?_)
        refine lv_istore_n (lv' := [(3, .int r_90), (2, .int x2_87), (6, .int t0), (0, .ref (a 3)), (1, .int x1), (4, .int x4)]) hx hb dX1_pushTo_93 rfl hl (by decide) rfl (fun ls hl => ?_)
        obtain ⟨x4_94, ex4_94⟩ : ∃ y : Int32, y = x4 + (1 : Int32) := ⟨_, rfl⟩
        have hm := hm x4_94 ex4_94
        refine lv_iinc (v := x4_94) (lv' := [(4, .int x4_94), (3, .int r_90), (2, .int x2_87), (6, .int t0), (0, .ref (a 3)), (1, .int x1)]) hx hb dX1_pushTo_94 hl (k := 5) rfl (by rw [ex4_94]; rfl) (by decide) rfl (fun ls hl => ?_)
        refine lv_goto (tgt := 12) hx hb dX1_pushTo_97 (by decide) ?_
        exact ih12 x2_87 r_90 x4_94 S_90 _ _ _ hm hP hS (lv_sub hl [4, 5, 2, 1, 0] rfl)
      refine lv_iload hx hb dX1_pushTo_12 (lv_at hl 4 rfl) ?_
      refine lv_bipush (v := (9 : Int32)) hx hb dX1_pushTo_14 (by decide) ?_
      refine lv_icmp_ge (tgt := 100) hx hb dX1_pushTo_16 (by decide) (fun c_16 => ?_) (fun c_16 => ?_)
      · have hm := hm.1 c_16
        exact b100 x1 x2 x3 S _ _ _ hm hP hS (lv_sub hl [0, 1, 2, 3] rfl)
      · have hm := hm.2 c_16
        refine lv_aload_n hx hb dX1_pushTo_19 rfl (lv_at hl 0 rfl) ?_
        refine zg_1_arcTo hx hb hts i1 hown hK hP (hts _ (List.mem_of_getElem? (i := 2) rfl)) dX1_pushTo_20 ?_
        refine lv_iload_n hx hb dX1_pushTo_23 rfl (lv_at hl 3 rfl) ?_
        obtain ⟨h_24, hm⟩ := hm
        refine z_iald hx hb hK hP zI_35 h_24 dX1_pushTo_24 ?_
        refine lv_iconst (v := (-1 : Int32)) hx hb dX1_pushTo_25 (by decide) ?_
        refine lv_icmp_eq (tgt := 100) hx hb dX1_pushTo_26 (by decide) (fun c_26 => ?_) (fun c_26 => ?_)
        · have hm := hm.1 c_26
          exact b100 x1 x2 x3 S _ _ _ hm hP hS (lv_sub hl [0, 1, 2, 3] rfl)
        · have hm := hm.2 c_26
          refine lv_aload_n hx hb dX1_pushTo_29 rfl (lv_at hl 0 rfl) ?_
          refine zg_1_arcTo hx hb hts i1 hown hK hP (hts _ (List.mem_of_getElem? (i := 2) rfl)) dX1_pushTo_30 ?_
          refine lv_iload_n hx hb dX1_pushTo_33 rfl (lv_at hl 3 rfl) ?_
          obtain ⟨h_34, hm⟩ := hm
          refine z_iald hx hb hK hP zI_35 h_34 dX1_pushTo_34 ?_
          refine lv_topi (fun x5_35 ex5_35 => ?_)
          have hm := hm x5_35 ex5_35
          refine lv_istore (lv' := [(5, .int x5_35), (0, .ref (a 3)), (1, .int x1), (2, .int x2), (3, .int x3), (4, .int x4)]) hx hb dX1_pushTo_35 hl (by decide) rfl (fun ls hl => ?_)
          refine lv_aload_n hx hb dX1_pushTo_37 rfl (lv_at hl 1 rfl) ?_
          refine zg_1_raises hx hb hts i1 hown hK hP (hts _ (List.mem_of_getElem? (i := 3) rfl)) dX1_pushTo_38 ?_
          refine lv_iload_n hx hb dX1_pushTo_41 rfl (lv_at hl 4 rfl) ?_
          obtain ⟨h_42, hm⟩ := hm
          refine z_zald hx hb hK hP zZ_36 h_42 dX1_pushTo_42 ?_
          refine lv_if_eq (tgt := 64) hx hb dX1_pushTo_43 (by decide) (fun c_43 => ?_) (fun c_43 => ?_)
          · have hm := hm.1 c_43
            refine lv_aload_n hx hb dX1_pushTo_64 rfl (lv_at hl 1 rfl) ?_
            refine zg_1_amount hx hb hts i1 hown hK hP (hts _ (List.mem_of_getElem? (i := 5) rfl)) dX1_pushTo_65 ?_
            refine lv_iload hx hb dX1_pushTo_68 (lv_at hl 0 rfl) ?_
            obtain ⟨h_70, hm⟩ := hm
            refine z_iald hx hb hK hP zI_31 h_70 dX1_pushTo_70 ?_
            refine lv_aload_n hx hb dX1_pushTo_71 rfl (lv_at hl 1 rfl) ?_
            refine zg_1_low hx hb hts i1 hown hK hP (hts _ (List.mem_of_getElem? (i := 6) rfl)) dX1_pushTo_72 ?_
            refine lv_iload hx hb dX1_pushTo_75 (lv_at hl 0 rfl) ?_
            obtain ⟨h_77, hm⟩ := hm
            refine z_iald hx hb hK hP zI_28 h_77 dX1_pushTo_77 ?_
            refine lv_isub hx hb dX1_pushTo_78 ?_
            exact b79 x2 x3 x4 ((S.1 31 (x5_35).toNatClampNeg) - (S.1 28 (x5_35).toNatClampNeg)) S _ _ _ hm hP hS (lv_sub hl [1, 2, 3, 4, 5] rfl)
          · have hm := hm.2 c_43
            refine lv_aload_n hx hb dX1_pushTo_46 rfl (lv_at hl 1 rfl) ?_
            refine zg_1_high hx hb hts i1 hown hK hP (hts _ (List.mem_of_getElem? (i := 4) rfl)) dX1_pushTo_47 ?_
            refine lv_iload hx hb dX1_pushTo_50 (lv_at hl 0 rfl) ?_
            obtain ⟨h_52, hm⟩ := hm
            refine z_iald hx hb hK hP zI_29 h_52 dX1_pushTo_52 ?_
            refine lv_aload_n hx hb dX1_pushTo_53 rfl (lv_at hl 1 rfl) ?_
            refine zg_1_amount hx hb hts i1 hown hK hP (hts _ (List.mem_of_getElem? (i := 5) rfl)) dX1_pushTo_54 ?_
            refine lv_iload hx hb dX1_pushTo_57 (lv_at hl 0 rfl) ?_
            obtain ⟨h_59, hm⟩ := hm
            refine z_iald hx hb hK hP zI_31 h_59 dX1_pushTo_59 ?_
            refine lv_isub hx hb dX1_pushTo_60 ?_
            refine lv_goto (tgt := 79) hx hb dX1_pushTo_61 (by decide) ?_
            exact b79 x2 x3 x4 ((S.1 29 (x5_35).toNatClampNeg) - (S.1 31 (x5_35).toNatClampNeg)) S _ _ _ hm hP hS (lv_sub hl [1, 2, 3, 4, 5] rfl)
  unfold X1_pushTo at hm
  refine lv_aload_n hx hb dX1_pushTo_0 rfl (lv_at hl 0 rfl) ?_
  refine zg_1_need hx hb hts i1 hown hK hP (hts _ (List.mem_of_getElem? (i := 1) rfl)) dX1_pushTo_1 ?_
  refine lv_iload_n hx hb dX1_pushTo_4 rfl (lv_at hl 1 rfl) ?_
  obtain ⟨h_5, hm⟩ := hm
  refine z_iald hx hb hK hP zI_33 h_5 dX1_pushTo_5 ?_
  refine lv_topi (fun x2_6 ex2_6 => ?_)
  have hm := hm x2_6 ex2_6
  refine lv_istore_n (lv' := [(2, .int x2_6), (0, .ref (a 3)), (1, .int y1)]) hx hb dX1_pushTo_6 rfl hl (by decide) rfl (fun ls hl => ?_)
  refine lv_iload_n hx hb dX1_pushTo_7 rfl (lv_at hl 2 rfl) ?_
  refine lv_istore_n (lv' := [(3, .int y1), (2, .int x2_6), (0, .ref (a 3)), (1, .int y1)]) hx hb dX1_pushTo_8 rfl hl (by decide) rfl (fun ls hl => ?_)
  refine lv_iconst (v := (0 : Int32)) hx hb dX1_pushTo_9 (by decide) ?_
  refine lv_istore (lv' := [(4, .int (0 : Int32)), (3, .int y1), (2, .int x2_6), (0, .ref (a 3)), (1, .int y1)]) hx hb dX1_pushTo_10 hl (by decide) rfl (fun ls hl => ?_)
  obtain ⟨n12, hm⟩ := hm
  exact L12 y1 n12 x2_6 y1 (0 : Int32) S _ _ _ hm hP hS (lv_sub hl [3, 4, 2, 1, 0] rfl)

abbrev rm_X1_balance : Room := { frames := 2, cells := 0, slots := 0, locals := 48 }
def X1_balance_b44 (S : ZS) (Q : Int32 → ZS → Prop) : Prop :=
  zbit (0 : Int32) ∧ Q (0 : Int32) S
def X1_balance_b31 (S : ZS) (Q : Int32 → ZS → Prop) : Prop :=
  zbit (0 : Int32) ∧ Q (0 : Int32) S
def X1_balance_b15 (S : ZS) (Q : Int32 → ZS → Prop) : Prop :=
  zbit (1 : Int32) ∧ Q (1 : Int32) S
def X1_balance_B2 (x1 : Int32) (S : ZS) (Q : Int32 → ZS → Prop) (k2 : Int32 × ZS → Prop) : Prop :=
  ((1000000 : Int32) ≤ x1 → X1_balance_b44 S Q) ∧ (¬ (1000000 : Int32) ≤ x1 → X1_hasNeed S (fun r_9 S_9 => (r_9 = 0 → X1_balance_b15 S_9 Q) ∧ (¬ r_9 = 0 → X1_measure S_9 (fun S_18 => X1_nearestNeed S_18 (fun r_22 S_22 => (r_22 = (-1 : Int32) → X1_balance_b31 S_22 Q) ∧ (¬ r_22 = (-1 : Int32) → X1_pushTo r_22 S_22 (fun S_35 => ∀ x1_38 : Int32, x1_38 = x1 + (1 : Int32) → k2 (x1_38, S_35))))))))
def X1_balance_L2 (Q : Int32 → ZS → Prop) : (Int32 × ZS) → ((Int32 × ZS) → Prop) → Prop := fun st k2 => X1_balance_B2 st.1 st.2 Q k2
def X1_balance (S : ZS) (Q : Int32 → ZS → Prop) : Prop :=
  zl (X1_balance_L2 Q) ((0 : Int32), S)
set_option maxHeartbeats 4000000 in
set_option maxRecDepth 100000 in
theorem c_X1_balance (l : Launch) (D : va_G) (k : Nat → ClassId) (a : Nat → Nat) (hj : zDj a) (S : ZS) (Q : Int32 → ZS → Prop) (hm : X1_balance S Q) (sz : Nat) : Met l yX1_balance wsX1_balance rm_X1_balance (zPc D k a [.ref (a 3)] S sz) (va_Qi Q (zB D k a) (zA a sz)) 0 0 (zA a sz) := by
  refine Met.ofW (cc := cX1_balance) (maxL := 3) (ret := (some .boolean)) (by decide) rfl ?_
  intro p e s m args below meth c s₁ B hml hv
  obtain ⟨rfl, hsz, hP, hK⟩ := hv
  have hx := B.exec
  have hb := B.bytes
  have hr := B.returns
  have hts := atoms_spec (ws := wsX1_balance) B.pre
  have hown : s.vm.findClass RX1 = some m.cls := findClass_of_methodNamed B.named
  have hlocks := B.notSynchronized
  subst hsz
  have hS : va_S (zA a s.heap.size) s.heap s.heap [] := va_S.rf
  have hF : CallFix p m c cX1_balance 3 s _ wsX1_balance RX1 := ⟨hx, hb, hml, hown, hts⟩
  have hl := lv_entry ([.ref (a 3)]) (n := 3) (Nat.le_of_ble_eq_true rfl)
  rw [lg_entry_eq]
  generalize (lg_sl ([.ref (a 3)]) ++ List.replicate (3 - (lg_sl ([.ref (a 3)])).length) Slot.unset).toArray = ls at hl ⊢
  have hl : lv_has ls 3 [(0, .ref (a 3))] := hl
  have b44 : ∀ (S : ZS) (H : Heap) (locs : List Loc) (ls : Array Slot), X1_balance_b44 S Q → va_P D vwCl (zWS k a S) H → va_S (zA a s.heap.size) s.heap H locs → lv_has ls 3 [(0, .ref (a 3))] → zWi p l e (headSpec wsX1_balance rm_X1_balance).room s m ([.ref (a 3)] : List Value) below meth c D k a Q H locs (F0 m 44 ls []) := by
    intro S H locs ls hm hP hS hl
    unfold X1_balance_b44 at hm
    refine lv_iconst (v := (0 : Int32)) hx hb dX1_balance_44 (by decide) ?_
    exact z_retz hx hb hr hlocks hP hS hm dX1_balance_45
  have b31 : ∀ (S : ZS) (H : Heap) (locs : List Loc) (ls : Array Slot), X1_balance_b31 S Q → va_P D vwCl (zWS k a S) H → va_S (zA a s.heap.size) s.heap H locs → lv_has ls 3 [(0, .ref (a 3))] → zWi p l e (headSpec wsX1_balance rm_X1_balance).room s m ([.ref (a 3)] : List Value) below meth c D k a Q H locs (F0 m 31 ls []) := by
    intro S H locs ls hm hP hS hl
    unfold X1_balance_b31 at hm
    refine lv_iconst (v := (0 : Int32)) hx hb dX1_balance_31 (by decide) ?_
    exact z_retz hx hb hr hlocks hP hS hm dX1_balance_32
  have b15 : ∀ (S : ZS) (H : Heap) (locs : List Loc) (ls : Array Slot), X1_balance_b15 S Q → va_P D vwCl (zWS k a S) H → va_S (zA a s.heap.size) s.heap H locs → lv_has ls 3 [(0, .ref (a 3))] → zWi p l e (headSpec wsX1_balance rm_X1_balance).room s m ([.ref (a 3)] : List Value) below meth c D k a Q H locs (F0 m 15 ls []) := by
    intro S H locs ls hm hP hS hl
    unfold X1_balance_b15 at hm
    refine lv_iconst (v := (1 : Int32)) hx hb dX1_balance_15 (by decide) ?_
    exact z_retz hx hb hr hlocks hP hS hm dX1_balance_16
  have L2 : ∀ (n : Nat) (x1 : Int32) (S : ZS) (H : Heap) (locs : List Loc) (ls : Array Slot), zn (X1_balance_L2 Q) n (x1, S) → va_P D vwCl (zWS k a S) H → va_S (zA a s.heap.size) s.heap H locs → lv_has ls 3 [(0, .ref (a 3)), (1, .int x1)] → zWi p l e (headSpec wsX1_balance rm_X1_balance).room s m ([.ref (a 3)] : List Value) below meth c D k a Q H locs (F0 m 2 ls []) := by
    intro n
    induction n with
    | zero =>
      intro x1 S H locs ls hm
      exact hm.elim
    | succ n ih2 =>
      intro x1 S H locs ls hm hP hS hl
      have hm : X1_balance_B2 x1 S Q (zn (X1_balance_L2 Q) n) := hm
      generalize zn (X1_balance_L2 Q) n = k2 at hm ih2
      unfold X1_balance_B2 at hm
      refine lv_iload_n hx hb dX1_balance_2 rfl (lv_at hl 1 rfl) ?_
      refine lv_ldc (v := (1000000 : Int32)) hx hb hown (hts _ (List.mem_of_getElem? (i := 1) rfl)) dX1_balance_3 ?_
      refine lv_icmp_ge (tgt := 44) hx hb dX1_balance_5 (by decide) (fun c_5 => ?_) (fun c_5 => ?_)
      · have hm := hm.1 c_5
        exact b44  S _ _ _ hm hP hS (lv_sub hl [0] rfl)
      · have hm := hm.2 c_5
        refine lv_aload_n hx hb dX1_balance_8 rfl (lv_at hl 0 rfl) ?_
        refine z_cVi (As := []) (rest := []) hF hK hP hS zO_3 rfl rfl (c_X1_hasNeed l D k a hj  S _ hm _) (cwV 0 hts gX1_balance_X1_hasNeed rfl rfl rfl (by decide +kernel) ⟨Nat.le_of_ble_eq_true rfl, Nat.le_of_ble_eq_true rfl⟩) rfl hl.1 rfl (Nat.le_of_ble_eq_true rfl) dX1_balance_9 ⟨Nat.zero_le _, Nat.zero_le _⟩ (fun r_9 S_9 H locs hm hP hS => ?_)
        refine lv_if_ne (tgt := 17) hx hb dX1_balance_12 (by decide) (fun c_12 => ?_) (fun c_12 => ?_)
        · have hm := hm.2 c_12
          refine lv_aload_n hx hb dX1_balance_17 rfl (lv_at hl 0 rfl) ?_
          refine z_cVv (As := []) (rest := []) hF hK hP hS zO_3 rfl rfl (c_X1_measure l D k a hj  S_9 _ hm _) (cwV 0 hts gX1_balance_X1_measure rfl rfl rfl (by decide +kernel) ⟨Nat.le_of_ble_eq_true rfl, Nat.le_of_ble_eq_true rfl⟩) rfl hl.1 rfl (Nat.le_of_ble_eq_true rfl) dX1_balance_18 ⟨Nat.zero_le _, Nat.zero_le _⟩ (fun S_18 H locs hm hP hS => ?_)
          refine lv_aload_n hx hb dX1_balance_21 rfl (lv_at hl 0 rfl) ?_
          refine z_cVi (As := []) (rest := []) hF hK hP hS zO_3 rfl rfl (c_X1_nearestNeed l D k a hj  S_18 _ hm _) (cwV 0 hts gX1_balance_X1_nearestNeed rfl rfl rfl (by decide +kernel) ⟨Nat.le_of_ble_eq_true rfl, Nat.le_of_ble_eq_true rfl⟩) rfl hl.1 rfl (Nat.le_of_ble_eq_true rfl) dX1_balance_22 ⟨Nat.zero_le _, Nat.zero_le _⟩ (fun r_22 S_22 H locs hm hP hS => ?_)
          refine lv_istore_n (lv' := [(2, .int r_22), (0, .ref (a 3)), (1, .int x1)]) hx hb dX1_balance_25 rfl hl (by decide) rfl (fun ls hl => ?_)
          refine lv_iload_n hx hb dX1_balance_26 rfl (lv_at hl 0 rfl) ?_
          refine lv_iconst (v := (-1 : Int32)) hx hb dX1_balance_27 (by decide) ?_
          refine lv_icmp_ne (tgt := 33) hx hb dX1_balance_28 (by decide) (fun c_28 => ?_) (fun c_28 => ?_)
          · have hm := hm.2 c_28
            refine lv_aload_n hx hb dX1_balance_33 rfl (lv_at hl 1 rfl) ?_
            refine lv_iload_n hx hb dX1_balance_34 rfl (lv_at hl 0 rfl) ?_
            refine z_cVv (As := [.int r_22]) (rest := []) hF hK hP hS zO_3 rfl rfl (c_X1_pushTo l D k a hj r_22 S_22 _ hm _) (cwV 1 hts gX1_balance_X1_pushTo rfl rfl rfl (by decide +kernel) ⟨Nat.le_of_ble_eq_true rfl, Nat.le_of_ble_eq_true rfl⟩) rfl hl.1 rfl (Nat.le_of_ble_eq_true rfl) dX1_balance_35 ⟨Nat.zero_le _, Nat.zero_le _⟩ (fun S_35 H locs hm hP hS => ?_)
            obtain ⟨x1_38, ex1_38⟩ : ∃ y : Int32, y = x1 + (1 : Int32) := ⟨_, rfl⟩
            have hm := hm x1_38 ex1_38
            refine lv_iinc (v := x1_38) (lv' := [(1, .int x1_38), (2, .int r_22), (0, .ref (a 3))]) hx hb dX1_balance_38 hl (k := 2) rfl (by rw [ex1_38]; rfl) (by decide) rfl (fun ls hl => ?_)
            refine lv_goto (tgt := 2) hx hb dX1_balance_41 (by decide) ?_
            exact ih2 x1_38 S_35 _ _ _ hm hP hS (lv_sub hl [2, 0] rfl)
          · have hm := hm.1 c_28
            exact b31  S_22 _ _ _ hm hP hS (lv_sub hl [1] rfl)
        · have hm := hm.1 c_12
          exact b15  S_9 _ _ _ hm hP hS (lv_sub hl [0] rfl)
  unfold X1_balance at hm
  refine lv_iconst (v := (0 : Int32)) hx hb dX1_balance_0 (by decide) ?_
  refine lv_istore_n (lv' := [(1, .int (0 : Int32)), (0, .ref (a 3))]) hx hb dX1_balance_1 rfl hl (by decide) rfl (fun ls hl => ?_)
  obtain ⟨n2, hm⟩ := hm
  exact L2 n2 (0 : Int32) S _ _ _ hm hP hS (lv_sub hl [1, 0] rfl)

