abbrev rm_X5_addColumn : Room := { frames := 0, cells := 0, slots := 0, locals := 0 }
def X5_addColumn (y1 : Int32) (y2 : Int32) (y3 : Int32) (S : ZS) (Q : Int32 → ZS → Prop) : Prop :=
  ∀ x4_4 : Int32, x4_4 = (S.1 1 0) → vp_in x4_4 10 ∧ ∀ S_13 : ZS, S_13 = zu S 8 (x4_4).toNatClampNeg y1 → vp_in x4_4 10 ∧ ∀ S_21 : ZS, S_21 = zu S_13 9 (x4_4).toNatClampNeg y2 → vp_in x4_4 10 ∧ ∀ S_29 : ZS, S_29 = zu S_21 10 (x4_4).toNatClampNeg y3 → ∀ S_35 : ZS, S_35 = zu S_29 1 0 (x4_4 + (1 : Int32)) → Q x4_4 S_35
set_option maxHeartbeats 4000000 in
set_option maxRecDepth 100000 in
theorem c_X5_addColumn (l : Launch) (D : va_G) (k : Nat → ClassId) (a : Nat → Nat) (hj : zDj a) (y1 : Int32) (y2 : Int32) (y3 : Int32) (S : ZS) (Q : Int32 → ZS → Prop) (hm : X5_addColumn y1 y2 y3 S Q) (sz : Nat) : Met l yX5_addColumn wsX5_addColumn rm_X5_addColumn (zPc D k a [.ref (a 1), .int y1, .int y2, .int y3] S sz) (va_Qi Q (zB D k a) (zA a sz)) 0 0 (zA a sz) := by
  refine Met.ofW (cc := cX5_addColumn) (maxL := 5) (ret := (some .int)) (by decide) rfl ?_
  intro p e s m args below meth c s₁ B hml hv
  obtain ⟨rfl, hsz, hP, hK⟩ := hv
  have hx := B.exec
  have hb := B.bytes
  have hr := B.returns
  have hts := atoms_spec (ws := wsX5_addColumn) B.pre
  have hown : s.vm.findClass RX5 = some m.cls := findClass_of_methodNamed B.named
  have hlocks := B.notSynchronized
  subst hsz
  have hS : va_S (zA a s.heap.size) s.heap s.heap [] := va_S.rf
  have hF : CallFix p m c cX5_addColumn 5 s _ wsX5_addColumn RX5 := ⟨hx, hb, hml, hown, hts⟩
  have i5 : ∀ w ∈ wsX50, w ∈ wsX5_addColumn := fun _ h => (List.mem_cons_of_mem _ (List.mem_append_right _ h))
  have hl := lv_entry ([.ref (a 1), .int y1, .int y2, .int y3]) (n := 5) (Nat.le_of_ble_eq_true rfl)
  rw [lg_entry_eq]
  generalize (lg_sl ([.ref (a 1), .int y1, .int y2, .int y3]) ++ List.replicate (5 - (lg_sl ([.ref (a 1), .int y1, .int y2, .int y3])).length) Slot.unset).toArray = ls at hl ⊢
  have hl : lv_has ls 5 [(0, .ref (a 1)), (1, .int y1), (2, .int y2), (3, .int y3)] := hl
  unfold X5_addColumn at hm
  refine lv_aload_n hx hb dX5_addColumn_0 rfl (lv_at hl 0 rfl) ?_
  refine zg_5_columns hx hb hts i5 hown hK hP (hts _ (List.mem_of_getElem? (i := 1) rfl)) dX5_addColumn_1 ?_
  refine lv_topi (fun x4_4 ex4_4 => ?_)
  have hm := hm x4_4 ex4_4
  refine lv_istore (lv' := [(4, .int x4_4), (0, .ref (a 1)), (1, .int y1), (2, .int y2), (3, .int y3)]) hx hb dX5_addColumn_4 hl (by decide) rfl (fun ls hl => ?_)
  refine lv_aload_n hx hb dX5_addColumn_6 rfl (lv_at hl 1 rfl) ?_
  refine zg_5_low hx hb hts i5 hown hK hP (hts _ (List.mem_of_getElem? (i := 2) rfl)) dX5_addColumn_7 ?_
  refine lv_iload hx hb dX5_addColumn_10 (lv_at hl 0 rfl) ?_
  refine lv_iload_n hx hb dX5_addColumn_12 rfl (lv_at hl 2 rfl) ?_
  obtain ⟨h_13, hm⟩ := hm
  refine z_iast hx hb hj hK hP hS zI_8 h_13 dX5_addColumn_13 (fun H locs hP hS => ?_)
  obtain ⟨S_13, eS_13⟩ : ∃ z : ZS, z = zu S 8 (x4_4).toNatClampNeg y1 := ⟨_, rfl⟩
  rw [← eS_13] at hP
  have hm := hm S_13 eS_13
  refine lv_aload_n hx hb dX5_addColumn_14 rfl (lv_at hl 1 rfl) ?_
  refine zg_5_high hx hb hts i5 hown hK hP (hts _ (List.mem_of_getElem? (i := 3) rfl)) dX5_addColumn_15 ?_
  refine lv_iload hx hb dX5_addColumn_18 (lv_at hl 0 rfl) ?_
  refine lv_iload_n hx hb dX5_addColumn_20 rfl (lv_at hl 3 rfl) ?_
  obtain ⟨h_21, hm⟩ := hm
  refine z_iast hx hb hj hK hP hS zI_9 h_21 dX5_addColumn_21 (fun H locs hP hS => ?_)
  obtain ⟨S_21, eS_21⟩ : ∃ z : ZS, z = zu S_13 9 (x4_4).toNatClampNeg y2 := ⟨_, rfl⟩
  rw [← eS_21] at hP
  have hm := hm S_21 eS_21
  refine lv_aload_n hx hb dX5_addColumn_22 rfl (lv_at hl 1 rfl) ?_
  refine zg_5_cost hx hb hts i5 hown hK hP (hts _ (List.mem_of_getElem? (i := 4) rfl)) dX5_addColumn_23 ?_
  refine lv_iload hx hb dX5_addColumn_26 (lv_at hl 0 rfl) ?_
  refine lv_iload_n hx hb dX5_addColumn_28 rfl (lv_at hl 4 rfl) ?_
  obtain ⟨h_29, hm⟩ := hm
  refine z_iast hx hb hj hK hP hS zI_10 h_29 dX5_addColumn_29 (fun H locs hP hS => ?_)
  obtain ⟨S_29, eS_29⟩ : ∃ z : ZS, z = zu S_21 10 (x4_4).toNatClampNeg y3 := ⟨_, rfl⟩
  rw [← eS_29] at hP
  have hm := hm S_29 eS_29
  refine lv_aload_n hx hb dX5_addColumn_30 rfl (lv_at hl 1 rfl) ?_
  refine lv_iload hx hb dX5_addColumn_31 (lv_at hl 0 rfl) ?_
  refine lv_iconst (v := (1 : Int32)) hx hb dX5_addColumn_33 (by decide) ?_
  refine lv_iadd hx hb dX5_addColumn_34 ?_
  refine zp_5_columns hx hb hts i5 hown hj hK hP hS (hts _ (List.mem_of_getElem? (i := 1) rfl)) dX5_addColumn_35 (fun H locs hP hS => ?_)
  obtain ⟨S_35, eS_35⟩ : ∃ z : ZS, z = zu S_29 1 0 (x4_4 + (1 : Int32)) := ⟨_, rfl⟩
  rw [← eS_35] at hP
  have hm := hm S_35 eS_35
  refine lv_iload hx hb dX5_addColumn_38 (lv_at hl 0 rfl) ?_
  exact z_reti hx hb hr hlocks hP hS hm dX5_addColumn_40

abbrev rm_X5_addRow : Room := { frames := 0, cells := 0, slots := 0, locals := 0 }
def X5_addRow (y1 : Int32) (y2 : Int32) (S : ZS) (Q : Int32 → ZS → Prop) : Prop :=
  ∀ x3_4 : Int32, x3_4 = (S.1 1 1) → vp_in x3_4 8 ∧ ∀ S_11 : ZS, S_11 = zu S 11 (x3_4).toNatClampNeg y1 → vp_in x3_4 8 ∧ ∀ S_18 : ZS, S_18 = zu S_11 12 (x3_4).toNatClampNeg y2 → ∀ S_23 : ZS, S_23 = zu S_18 1 1 (x3_4 + (1 : Int32)) → Q x3_4 S_23
set_option maxHeartbeats 4000000 in
set_option maxRecDepth 100000 in
theorem c_X5_addRow (l : Launch) (D : va_G) (k : Nat → ClassId) (a : Nat → Nat) (hj : zDj a) (y1 : Int32) (y2 : Int32) (S : ZS) (Q : Int32 → ZS → Prop) (hm : X5_addRow y1 y2 S Q) (sz : Nat) : Met l yX5_addRow wsX5_addRow rm_X5_addRow (zPc D k a [.ref (a 1), .int y1, .int y2] S sz) (va_Qi Q (zB D k a) (zA a sz)) 0 0 (zA a sz) := by
  refine Met.ofW (cc := cX5_addRow) (maxL := 4) (ret := (some .int)) (by decide) rfl ?_
  intro p e s m args below meth c s₁ B hml hv
  obtain ⟨rfl, hsz, hP, hK⟩ := hv
  have hx := B.exec
  have hb := B.bytes
  have hr := B.returns
  have hts := atoms_spec (ws := wsX5_addRow) B.pre
  have hown : s.vm.findClass RX5 = some m.cls := findClass_of_methodNamed B.named
  have hlocks := B.notSynchronized
  subst hsz
  have hS : va_S (zA a s.heap.size) s.heap s.heap [] := va_S.rf
  have hF : CallFix p m c cX5_addRow 4 s _ wsX5_addRow RX5 := ⟨hx, hb, hml, hown, hts⟩
  have i5 : ∀ w ∈ wsX50, w ∈ wsX5_addRow := fun _ h => (List.mem_cons_of_mem _ (List.mem_append_right _ h))
  have hl := lv_entry ([.ref (a 1), .int y1, .int y2]) (n := 4) (Nat.le_of_ble_eq_true rfl)
  rw [lg_entry_eq]
  generalize (lg_sl ([.ref (a 1), .int y1, .int y2]) ++ List.replicate (4 - (lg_sl ([.ref (a 1), .int y1, .int y2])).length) Slot.unset).toArray = ls at hl ⊢
  have hl : lv_has ls 4 [(0, .ref (a 1)), (1, .int y1), (2, .int y2)] := hl
  unfold X5_addRow at hm
  refine lv_aload_n hx hb dX5_addRow_0 rfl (lv_at hl 0 rfl) ?_
  refine zg_5_rows hx hb hts i5 hown hK hP (hts _ (List.mem_of_getElem? (i := 1) rfl)) dX5_addRow_1 ?_
  refine lv_topi (fun x3_4 ex3_4 => ?_)
  have hm := hm x3_4 ex3_4
  refine lv_istore_n (lv' := [(3, .int x3_4), (0, .ref (a 1)), (1, .int y1), (2, .int y2)]) hx hb dX5_addRow_4 rfl hl (by decide) rfl (fun ls hl => ?_)
  refine lv_aload_n hx hb dX5_addRow_5 rfl (lv_at hl 1 rfl) ?_
  refine zg_5_kind hx hb hts i5 hown hK hP (hts _ (List.mem_of_getElem? (i := 2) rfl)) dX5_addRow_6 ?_
  refine lv_iload_n hx hb dX5_addRow_9 rfl (lv_at hl 0 rfl) ?_
  refine lv_iload_n hx hb dX5_addRow_10 rfl (lv_at hl 2 rfl) ?_
  obtain ⟨h_11, hm⟩ := hm
  refine z_iast hx hb hj hK hP hS zI_11 h_11 dX5_addRow_11 (fun H locs hP hS => ?_)
  obtain ⟨S_11, eS_11⟩ : ∃ z : ZS, z = zu S 11 (x3_4).toNatClampNeg y1 := ⟨_, rfl⟩
  rw [← eS_11] at hP
  have hm := hm S_11 eS_11
  refine lv_aload_n hx hb dX5_addRow_12 rfl (lv_at hl 1 rfl) ?_
  refine zg_5_right hx hb hts i5 hown hK hP (hts _ (List.mem_of_getElem? (i := 3) rfl)) dX5_addRow_13 ?_
  refine lv_iload_n hx hb dX5_addRow_16 rfl (lv_at hl 0 rfl) ?_
  refine lv_iload_n hx hb dX5_addRow_17 rfl (lv_at hl 3 rfl) ?_
  obtain ⟨h_18, hm⟩ := hm
  refine z_iast hx hb hj hK hP hS zI_12 h_18 dX5_addRow_18 (fun H locs hP hS => ?_)
  obtain ⟨S_18, eS_18⟩ : ∃ z : ZS, z = zu S_11 12 (x3_4).toNatClampNeg y2 := ⟨_, rfl⟩
  rw [← eS_18] at hP
  have hm := hm S_18 eS_18
  refine lv_aload_n hx hb dX5_addRow_19 rfl (lv_at hl 1 rfl) ?_
  refine lv_iload_n hx hb dX5_addRow_20 rfl (lv_at hl 0 rfl) ?_
  refine lv_iconst (v := (1 : Int32)) hx hb dX5_addRow_21 (by decide) ?_
  refine lv_iadd hx hb dX5_addRow_22 ?_
  refine zp_5_rows hx hb hts i5 hown hj hK hP hS (hts _ (List.mem_of_getElem? (i := 1) rfl)) dX5_addRow_23 (fun H locs hP hS => ?_)
  obtain ⟨S_23, eS_23⟩ : ∃ z : ZS, z = zu S_18 1 1 (x3_4 + (1 : Int32)) := ⟨_, rfl⟩
  rw [← eS_23] at hP
  have hm := hm S_23 eS_23
  refine lv_iload_n hx hb dX5_addRow_26 rfl (lv_at hl 0 rfl) ?_
  exact z_reti hx hb hr hlocks hP hS hm dX5_addRow_27

abbrev rm_X5_wipe : Room := { frames := 1, cells := 0, slots := 0, locals := 23 }
def X5_wipe_b24 (S : ZS) (Q : ZS → Prop) : Prop :=
  ∀ S_26 : ZS, S_26 = zu S 1 0 (0 : Int32) → ∀ S_31 : ZS, S_31 = zu S_26 1 1 (0 : Int32) → Q S_31
def X5_wipe_B2 (x1 : Int32) (S : ZS) (Q : ZS → Prop) (k2 : Int32 × ZS → Prop) : Prop :=
  ((8 : Int32) ≤ x1 → X5_wipe_b24 S Q) ∧ (¬ (8 : Int32) ≤ x1 → vp_in x1 8 ∧ J7_fill_53178 (14 + (x1).toNatClampNeg) 10 (0 : Int32) S (fun S_15 => ∀ x1_18 : Int32, x1_18 = x1 + (1 : Int32) → k2 (x1_18, S_15)))
def X5_wipe_L2 (Q : ZS → Prop) : (Int32 × ZS) → ((Int32 × ZS) → Prop) → Prop := fun st k2 => X5_wipe_B2 st.1 st.2 Q k2
def X5_wipe (S : ZS) (Q : ZS → Prop) : Prop :=
  zl (X5_wipe_L2 Q) ((0 : Int32), S)
set_option maxHeartbeats 4000000 in
set_option maxRecDepth 100000 in
theorem c_X5_wipe (l : Launch) (D : va_G) (k : Nat → ClassId) (a : Nat → Nat) (hj : zDj a) (S : ZS) (Q : ZS → Prop) (hm : X5_wipe S Q) (sz : Nat) : Met l yX5_wipe wsX5_wipe rm_X5_wipe (zPc D k a [.ref (a 1)] S sz) (va_Qv Q (zB D k a) (zA a sz)) 0 0 (zA a sz) := by
  refine Met.ofW (cc := cX5_wipe) (maxL := 2) (ret := none) (by decide) rfl ?_
  intro p e s m args below meth c s₁ B hml hv
  obtain ⟨rfl, hsz, hP, hK⟩ := hv
  have hx := B.exec
  have hb := B.bytes
  have hr := B.returns
  have hts := atoms_spec (ws := wsX5_wipe) B.pre
  have hown : s.vm.findClass RX5 = some m.cls := findClass_of_methodNamed B.named
  have hlocks := B.notSynchronized
  subst hsz
  have hS : va_S (zA a s.heap.size) s.heap s.heap [] := va_S.rf
  have hF : CallFix p m c cX5_wipe 2 s _ wsX5_wipe RX5 := ⟨hx, hb, hml, hown, hts⟩
  have i5 : ∀ w ∈ wsX50, w ∈ wsX5_wipe := fun _ h => (List.mem_cons_of_mem _ (List.mem_append_right _ h))
  have hl := lv_entry ([.ref (a 1)]) (n := 2) (Nat.le_of_ble_eq_true rfl)
  rw [lg_entry_eq]
  generalize (lg_sl ([.ref (a 1)]) ++ List.replicate (2 - (lg_sl ([.ref (a 1)])).length) Slot.unset).toArray = ls at hl ⊢
  have hl : lv_has ls 2 [(0, .ref (a 1))] := hl
  have b24 : ∀ (S : ZS) (H : Heap) (locs : List Loc) (ls : Array Slot), X5_wipe_b24 S Q → va_P D vwCl (zWS k a S) H → va_S (zA a s.heap.size) s.heap H locs → lv_has ls 2 [(0, .ref (a 1))] → zWv p l e (headSpec wsX5_wipe rm_X5_wipe).room s m ([.ref (a 1)] : List Value) below meth c D k a Q H locs (F0 m 24 ls []) := by
    intro S H locs ls hm hP hS hl
    unfold X5_wipe_b24 at hm
    refine lv_aload_n hx hb dX5_wipe_24 rfl (lv_at hl 0 rfl) ?_
    refine lv_iconst (v := (0 : Int32)) hx hb dX5_wipe_25 (by decide) ?_
    refine zp_5_columns hx hb hts i5 hown hj hK hP hS (hts _ (List.mem_of_getElem? (i := 2) rfl)) dX5_wipe_26 (fun H locs hP hS => ?_)
    obtain ⟨S_26, eS_26⟩ : ∃ z : ZS, z = zu S 1 0 (0 : Int32) := ⟨_, rfl⟩
    rw [← eS_26] at hP
    have hm := hm S_26 eS_26
    refine lv_aload_n hx hb dX5_wipe_29 rfl (lv_at hl 0 rfl) ?_
    refine lv_iconst (v := (0 : Int32)) hx hb dX5_wipe_30 (by decide) ?_
    refine zp_5_rows hx hb hts i5 hown hj hK hP hS (hts _ (List.mem_of_getElem? (i := 3) rfl)) dX5_wipe_31 (fun H locs hP hS => ?_)
    obtain ⟨S_31, eS_31⟩ : ∃ z : ZS, z = zu S_26 1 1 (0 : Int32) := ⟨_, rfl⟩
    rw [← eS_31] at hP
    have hm := hm S_31 eS_31
    exact z_retv hx hb hr hlocks hP hS hm dX5_wipe_34
  have L2 : ∀ (n : Nat) (x1 : Int32) (S : ZS) (H : Heap) (locs : List Loc) (ls : Array Slot), zn (X5_wipe_L2 Q) n (x1, S) → va_P D vwCl (zWS k a S) H → va_S (zA a s.heap.size) s.heap H locs → lv_has ls 2 [(0, .ref (a 1)), (1, .int x1)] → zWv p l e (headSpec wsX5_wipe rm_X5_wipe).room s m ([.ref (a 1)] : List Value) below meth c D k a Q H locs (F0 m 2 ls []) := by
    intro n
    induction n with
    | zero =>
      intro x1 S H locs ls hm
      exact hm.elim
    | succ n ih2 =>
      intro x1 S H locs ls hm hP hS hl
      have hm : X5_wipe_B2 x1 S Q (zn (X5_wipe_L2 Q) n) := hm
      generalize zn (X5_wipe_L2 Q) n = k2 at hm ih2
      unfold X5_wipe_B2 at hm
      refine lv_iload_n hx hb dX5_wipe_2 rfl (lv_at hl 1 rfl) ?_
      refine lv_bipush (v := (8 : Int32)) hx hb dX5_wipe_3 (by decide) ?_
      refine lv_icmp_ge (tgt := 24) hx hb dX5_wipe_5 (by decide) (fun c_5 => ?_) (fun c_5 => ?_)
      · have hm := hm.1 c_5
        exact b24  S _ _ _ hm hP hS (lv_sub hl [0] rfl)
      · have hm := hm.2 c_5
        refine lv_aload_n hx hb dX5_wipe_8 rfl (lv_at hl 0 rfl) ?_
        refine zg_5_a hx hb hts i5 hown hK hP (hts _ (List.mem_of_getElem? (i := 1) rfl)) dX5_wipe_9 ?_
        refine lv_iload_n hx hb dX5_wipe_12 rfl (lv_at hl 1 rfl) ?_
        obtain ⟨h_13, hm⟩ := hm
        refine z_aald hx hb hK hP zQ_13 h_13 dX5_wipe_13 ?_
        refine lv_iconst (v := (0 : Int32)) hx hb dX5_wipe_14 (by decide) ?_
        refine z_cSv (As := [.ref (a (14 + (x1).toNatClampNeg)), .int (0 : Int32)]) (rest := []) hF hK hP hS (c_J7_fill_53178 l D k a hj (14 + (x1).toNatClampNeg) 10 (zRi_13 h_13) (0 : Int32) S _ hm _) (va_cwS 2 hts gX5_wipe_J7_fill_53178 rfl rfl rfl (by decide +kernel) ⟨Nat.le_of_ble_eq_true rfl, Nat.le_of_ble_eq_true rfl⟩) rfl hl.1 rfl (Nat.le_of_ble_eq_true rfl) dX5_wipe_15 ⟨Nat.zero_le _, Nat.zero_le _⟩ (fun S_15 H locs hm hP hS => ?_)
        obtain ⟨x1_18, ex1_18⟩ : ∃ y : Int32, y = x1 + (1 : Int32) := ⟨_, rfl⟩
        have hm := hm x1_18 ex1_18
        refine lv_iinc (v := x1_18) (lv' := [(1, .int x1_18), (0, .ref (a 1))]) hx hb dX5_wipe_18 hl (k := 1) rfl (by rw [ex1_18]; rfl) (by decide) rfl (fun ls hl => ?_)
        refine lv_goto (tgt := 2) hx hb dX5_wipe_21 (by decide) ?_
        exact ih2 x1_18 S_15 _ _ _ hm hP hS (lv_sub hl [1, 0] rfl)
  unfold X5_wipe at hm
  refine lv_iconst (v := (0 : Int32)) hx hb dX5_wipe_0 (by decide) ?_
  refine lv_istore_n (lv' := [(1, .int (0 : Int32)), (0, .ref (a 1))]) hx hb dX5_wipe_1 rfl hl (by decide) rfl (fun ls hl => ?_)
  obtain ⟨n2, hm⟩ := hm
  exact L2 n2 (0 : Int32) S _ _ _ hm hP hS (lv_sub hl [1, 0] rfl)

abbrev rm_X5_countTerms : Room := { frames := 0, cells := 0, slots := 0, locals := 0 }
def X5_countTerms_b32 (x2 : Int32) (S : ZS) (Q : Int32 → ZS → Prop) : Prop :=
  Q x2 S
def X5_countTerms_b26 (x1 : Int32) (x2 : Int32) (x3 : Int32) (S : ZS) (Q : Int32 → ZS → Prop) (k4 : Int32 × Int32 × ZS → Prop) : Prop :=
  ∀ x3_26 : Int32, x3_26 = x3 + (1 : Int32) → k4 (x2, x3_26, S)
def X5_countTerms_B4 (x1 : Int32) (x2 : Int32) (x3 : Int32) (S : ZS) (Q : Int32 → ZS → Prop) (k4 : Int32 × Int32 × ZS → Prop) : Prop :=
  ((S.1 1 1) ≤ x3 → X5_countTerms_b32 x2 S Q) ∧ (¬ (S.1 1 1) ≤ x3 → vp_in x3 8 ∧ vp_in x1 10 ∧ ((S.1 (14 + (x3).toNatClampNeg) (x1).toNatClampNeg) = 0 → X5_countTerms_b26 x1 x2 x3 S Q k4) ∧ (¬ (S.1 (14 + (x3).toNatClampNeg) (x1).toNatClampNeg) = 0 → ∀ x2_23 : Int32, x2_23 = x2 + (1 : Int32) → X5_countTerms_b26 x1 x2_23 x3 S Q k4))
def X5_countTerms_L4 (x1 : Int32) (Q : Int32 → ZS → Prop) : (Int32 × Int32 × ZS) → ((Int32 × Int32 × ZS) → Prop) → Prop := fun st k4 => X5_countTerms_B4 x1 st.1 st.2.1 st.2.2 Q k4
def X5_countTerms (y1 : Int32) (S : ZS) (Q : Int32 → ZS → Prop) : Prop :=
  zl (X5_countTerms_L4 y1 Q) ((0 : Int32), (0 : Int32), S)
set_option maxHeartbeats 4000000 in
set_option maxRecDepth 100000 in
theorem c_X5_countTerms (l : Launch) (D : va_G) (k : Nat → ClassId) (a : Nat → Nat) (hj : zDj a) (y1 : Int32) (S : ZS) (Q : Int32 → ZS → Prop) (hm : X5_countTerms y1 S Q) (sz : Nat) : Met l yX5_countTerms wsX5_countTerms rm_X5_countTerms (zPc D k a [.ref (a 1), .int y1] S sz) (va_Qi Q (zB D k a) (zA a sz)) 0 0 (zA a sz) := by
  refine Met.ofW (cc := cX5_countTerms) (maxL := 4) (ret := (some .int)) (by decide) rfl ?_
  intro p e s m args below meth c s₁ B hml hv
  obtain ⟨rfl, hsz, hP, hK⟩ := hv
  have hx := B.exec
  have hb := B.bytes
  have hr := B.returns
  have hts := atoms_spec (ws := wsX5_countTerms) B.pre
  have hown : s.vm.findClass RX5 = some m.cls := findClass_of_methodNamed B.named
  have hlocks := B.notSynchronized
  subst hsz
  have hS : va_S (zA a s.heap.size) s.heap s.heap [] := va_S.rf
  have hF : CallFix p m c cX5_countTerms 4 s _ wsX5_countTerms RX5 := ⟨hx, hb, hml, hown, hts⟩
  have i5 : ∀ w ∈ wsX50, w ∈ wsX5_countTerms := fun _ h => (List.mem_cons_of_mem _ (List.mem_append_right _ h))
  have hl := lv_entry ([.ref (a 1), .int y1]) (n := 4) (Nat.le_of_ble_eq_true rfl)
  rw [lg_entry_eq]
  generalize (lg_sl ([.ref (a 1), .int y1]) ++ List.replicate (4 - (lg_sl ([.ref (a 1), .int y1])).length) Slot.unset).toArray = ls at hl ⊢
  have hl : lv_has ls 4 [(0, .ref (a 1)), (1, .int y1)] := hl
  have b32 : ∀ (x2 : Int32) (S : ZS) (H : Heap) (locs : List Loc) (ls : Array Slot), X5_countTerms_b32 x2 S Q → va_P D vwCl (zWS k a S) H → va_S (zA a s.heap.size) s.heap H locs → lv_has ls 4 [(0, .ref (a 1)), (2, .int x2)] → zWi p l e (headSpec wsX5_countTerms rm_X5_countTerms).room s m ([.ref (a 1), .int y1] : List Value) below meth c D k a Q H locs (F0 m 32 ls []) := by
    intro x2 S H locs ls hm hP hS hl
    unfold X5_countTerms_b32 at hm
    refine lv_iload_n hx hb dX5_countTerms_32 rfl (lv_at hl 1 rfl) ?_
    exact z_reti hx hb hr hlocks hP hS hm dX5_countTerms_33
  have L4 : ∀ (x1 : Int32) (n : Nat) (x2 : Int32) (x3 : Int32) (S : ZS) (H : Heap) (locs : List Loc) (ls : Array Slot), zn (X5_countTerms_L4 x1 Q) n (x2, x3, S) → va_P D vwCl (zWS k a S) H → va_S (zA a s.heap.size) s.heap H locs → lv_has ls 4 [(0, .ref (a 1)), (1, .int x1), (2, .int x2), (3, .int x3)] → zWi p l e (headSpec wsX5_countTerms rm_X5_countTerms).room s m ([.ref (a 1), .int y1] : List Value) below meth c D k a Q H locs (F0 m 4 ls []) := by
    intro x1 n
    induction n with
    | zero =>
      intro x2 x3 S H locs ls hm
      exact hm.elim
    | succ n ih4 =>
      intro x2 x3 S H locs ls hm hP hS hl
      have hm : X5_countTerms_B4 x1 x2 x3 S Q (zn (X5_countTerms_L4 x1 Q) n) := hm
      generalize zn (X5_countTerms_L4 x1 Q) n = k4 at hm ih4
      unfold X5_countTerms_B4 at hm
      have b26 : ∀ (x2 : Int32) (x3 : Int32) (S : ZS) (H : Heap) (locs : List Loc) (ls : Array Slot), X5_countTerms_b26 x1 x2 x3 S Q k4 → va_P D vwCl (zWS k a S) H → va_S (zA a s.heap.size) s.heap H locs → lv_has ls 4 [(0, .ref (a 1)), (1, .int x1), (2, .int x2), (3, .int x3)] → zWi p l e (headSpec wsX5_countTerms rm_X5_countTerms).room s m ([.ref (a 1), .int y1] : List Value) below meth c D k a Q H locs (F0 m 26 ls []) := by
        intro x2 x3 S H locs ls hm hP hS hl
        unfold X5_countTerms_b26 at hm
        obtain ⟨x3_26, ex3_26⟩ : ∃ y : Int32, y = x3 + (1 : Int32) := ⟨_, rfl⟩
        have hm := hm x3_26 ex3_26
        refine lv_iinc (v := x3_26) (lv' := [(3, .int x3_26), (0, .ref (a 1)), (1, .int x1), (2, .int x2)]) hx hb dX5_countTerms_26 hl (k := 3) rfl (by rw [ex3_26]; rfl) (by decide) rfl (fun ls hl => ?_)
        refine lv_goto (tgt := 4) hx hb dX5_countTerms_29 (by decide) ?_
        exact ih4 x2 x3_26 S _ _ _ hm hP hS (lv_sub hl [1, 2, 3, 0] rfl)
      refine lv_iload_n hx hb dX5_countTerms_4 rfl (lv_at hl 3 rfl) ?_
      refine lv_aload_n hx hb dX5_countTerms_5 rfl (lv_at hl 0 rfl) ?_
      refine zg_5_rows hx hb hts i5 hown hK hP (hts _ (List.mem_of_getElem? (i := 1) rfl)) dX5_countTerms_6 ?_
      refine lv_icmp_ge (tgt := 32) hx hb dX5_countTerms_9 (by decide) (fun c_9 => ?_) (fun c_9 => ?_)
      · have hm := hm.1 c_9
        exact b32 x2 S _ _ _ hm hP hS (lv_sub hl [0, 2] rfl)
      · have hm := hm.2 c_9
        refine lv_aload_n hx hb dX5_countTerms_12 rfl (lv_at hl 0 rfl) ?_
        refine zg_5_a hx hb hts i5 hown hK hP (hts _ (List.mem_of_getElem? (i := 2) rfl)) dX5_countTerms_13 ?_
        refine lv_iload_n hx hb dX5_countTerms_16 rfl (lv_at hl 3 rfl) ?_
        obtain ⟨h_17, hm⟩ := hm
        refine z_aald hx hb hK hP zQ_13 h_17 dX5_countTerms_17 ?_
        refine lv_iload_n hx hb dX5_countTerms_18 rfl (lv_at hl 1 rfl) ?_
        obtain ⟨h_19, hm⟩ := hm
        refine z_iald hx hb hK hP (zRi_13 h_17) h_19 dX5_countTerms_19 ?_
        refine lv_if_eq (tgt := 26) hx hb dX5_countTerms_20 (by decide) (fun c_20 => ?_) (fun c_20 => ?_)
        · have hm := hm.1 c_20
          exact b26 x2 x3 S _ _ _ hm hP hS (lv_sub hl [0, 1, 2, 3] rfl)
        · have hm := hm.2 c_20
          obtain ⟨x2_23, ex2_23⟩ : ∃ y : Int32, y = x2 + (1 : Int32) := ⟨_, rfl⟩
          have hm := hm x2_23 ex2_23
          refine lv_iinc (v := x2_23) (lv' := [(2, .int x2_23), (0, .ref (a 1)), (1, .int x1), (3, .int x3)]) hx hb dX5_countTerms_23 hl (k := 2) rfl (by rw [ex2_23]; rfl) (by decide) rfl (fun ls hl => ?_)
          exact b26 x2_23 x3 S _ _ _ hm hP hS (lv_sub hl [1, 2, 0, 3] rfl)
  unfold X5_countTerms at hm
  refine lv_iconst (v := (0 : Int32)) hx hb dX5_countTerms_0 (by decide) ?_
  refine lv_istore_n (lv' := [(2, .int (0 : Int32)), (0, .ref (a 1)), (1, .int y1)]) hx hb dX5_countTerms_1 rfl hl (by decide) rfl (fun ls hl => ?_)
  refine lv_iconst (v := (0 : Int32)) hx hb dX5_countTerms_2 (by decide) ?_
  refine lv_istore_n (lv' := [(3, .int (0 : Int32)), (2, .int (0 : Int32)), (0, .ref (a 1)), (1, .int y1)]) hx hb dX5_countTerms_3 rfl hl (by decide) rfl (fun ls hl => ?_)
  obtain ⟨n4, hm⟩ := hm
  exact L4 y1 n4 (0 : Int32) (0 : Int32) S _ _ _ hm hP hS (lv_sub hl [2, 3, 1, 0] rfl)

abbrev rm_X5_nextTerm : Room := { frames := 0, cells := 0, slots := 0, locals := 0 }
def X5_nextTerm_b29 (S : ZS) (Q : Int32 → ZS → Prop) : Prop :=
  Q (-1 : Int32) S
def X5_nextTerm_b21 (x3 : Int32) (S : ZS) (Q : Int32 → ZS → Prop) : Prop :=
  Q x3 S
def X5_nextTerm_B2 (x1 : Int32) (x3 : Int32) (S : ZS) (Q : Int32 → ZS → Prop) (k2 : Int32 × ZS → Prop) : Prop :=
  ((S.1 1 1) ≤ x3 → X5_nextTerm_b29 S Q) ∧ (¬ (S.1 1 1) ≤ x3 → vp_in x3 8 ∧ vp_in x1 10 ∧ ((S.1 (14 + (x3).toNatClampNeg) (x1).toNatClampNeg) = 0 → ∀ x3_23 : Int32, x3_23 = x3 + (1 : Int32) → k2 (x3_23, S)) ∧ (¬ (S.1 (14 + (x3).toNatClampNeg) (x1).toNatClampNeg) = 0 → X5_nextTerm_b21 x3 S Q))
def X5_nextTerm_L2 (x1 : Int32) (Q : Int32 → ZS → Prop) : (Int32 × ZS) → ((Int32 × ZS) → Prop) → Prop := fun st k2 => X5_nextTerm_B2 x1 st.1 st.2 Q k2
def X5_nextTerm (y1 : Int32) (y2 : Int32) (S : ZS) (Q : Int32 → ZS → Prop) : Prop :=
  zl (X5_nextTerm_L2 y1 Q) (y2, S)
set_option maxHeartbeats 4000000 in
set_option maxRecDepth 100000 in
theorem c_X5_nextTerm (l : Launch) (D : va_G) (k : Nat → ClassId) (a : Nat → Nat) (hj : zDj a) (y1 : Int32) (y2 : Int32) (S : ZS) (Q : Int32 → ZS → Prop) (hm : X5_nextTerm y1 y2 S Q) (sz : Nat) : Met l yX5_nextTerm wsX5_nextTerm rm_X5_nextTerm (zPc D k a [.ref (a 1), .int y1, .int y2] S sz) (va_Qi Q (zB D k a) (zA a sz)) 0 0 (zA a sz) := by
  refine Met.ofW (cc := cX5_nextTerm) (maxL := 4) (ret := (some .int)) (by decide) rfl ?_
  intro p e s m args below meth c s₁ B hml hv
  obtain ⟨rfl, hsz, hP, hK⟩ := hv
  have hx := B.exec
  have hb := B.bytes
  have hr := B.returns
  have hts := atoms_spec (ws := wsX5_nextTerm) B.pre
  have hown : s.vm.findClass RX5 = some m.cls := findClass_of_methodNamed B.named
  have hlocks := B.notSynchronized
  subst hsz
  have hS : va_S (zA a s.heap.size) s.heap s.heap [] := va_S.rf
  have hF : CallFix p m c cX5_nextTerm 4 s _ wsX5_nextTerm RX5 := ⟨hx, hb, hml, hown, hts⟩
  have i5 : ∀ w ∈ wsX50, w ∈ wsX5_nextTerm := fun _ h => (List.mem_cons_of_mem _ (List.mem_append_right _ h))
  have hl := lv_entry ([.ref (a 1), .int y1, .int y2]) (n := 4) (Nat.le_of_ble_eq_true rfl)
  rw [lg_entry_eq]
  generalize (lg_sl ([.ref (a 1), .int y1, .int y2]) ++ List.replicate (4 - (lg_sl ([.ref (a 1), .int y1, .int y2])).length) Slot.unset).toArray = ls at hl ⊢
  have hl : lv_has ls 4 [(0, .ref (a 1)), (1, .int y1), (2, .int y2)] := hl
  have b29 : ∀ (S : ZS) (H : Heap) (locs : List Loc) (ls : Array Slot), X5_nextTerm_b29 S Q → va_P D vwCl (zWS k a S) H → va_S (zA a s.heap.size) s.heap H locs → lv_has ls 4 [(0, .ref (a 1))] → zWi p l e (headSpec wsX5_nextTerm rm_X5_nextTerm).room s m ([.ref (a 1), .int y1, .int y2] : List Value) below meth c D k a Q H locs (F0 m 29 ls []) := by
    intro S H locs ls hm hP hS hl
    unfold X5_nextTerm_b29 at hm
    refine lv_iconst (v := (-1 : Int32)) hx hb dX5_nextTerm_29 (by decide) ?_
    exact z_reti hx hb hr hlocks hP hS hm dX5_nextTerm_30
  have b21 : ∀ (x3 : Int32) (S : ZS) (H : Heap) (locs : List Loc) (ls : Array Slot), X5_nextTerm_b21 x3 S Q → va_P D vwCl (zWS k a S) H → va_S (zA a s.heap.size) s.heap H locs → lv_has ls 4 [(0, .ref (a 1)), (3, .int x3)] → zWi p l e (headSpec wsX5_nextTerm rm_X5_nextTerm).room s m ([.ref (a 1), .int y1, .int y2] : List Value) below meth c D k a Q H locs (F0 m 21 ls []) := by
    intro x3 S H locs ls hm hP hS hl
    unfold X5_nextTerm_b21 at hm
    refine lv_iload_n hx hb dX5_nextTerm_21 rfl (lv_at hl 1 rfl) ?_
    exact z_reti hx hb hr hlocks hP hS hm dX5_nextTerm_22
  have L2 : ∀ (x1 : Int32) (n : Nat) (x3 : Int32) (S : ZS) (H : Heap) (locs : List Loc) (ls : Array Slot), zn (X5_nextTerm_L2 x1 Q) n (x3, S) → va_P D vwCl (zWS k a S) H → va_S (zA a s.heap.size) s.heap H locs → lv_has ls 4 [(0, .ref (a 1)), (1, .int x1), (3, .int x3)] → zWi p l e (headSpec wsX5_nextTerm rm_X5_nextTerm).room s m ([.ref (a 1), .int y1, .int y2] : List Value) below meth c D k a Q H locs (F0 m 2 ls []) := by
    intro x1 n
    induction n with
    | zero =>
      intro x3 S H locs ls hm
      exact hm.elim
    | succ n ih2 =>
      intro x3 S H locs ls hm hP hS hl
      have hm : X5_nextTerm_B2 x1 x3 S Q (zn (X5_nextTerm_L2 x1 Q) n) := hm
      generalize zn (X5_nextTerm_L2 x1 Q) n = k2 at hm ih2
      unfold X5_nextTerm_B2 at hm
      refine lv_iload_n hx hb dX5_nextTerm_2 rfl (lv_at hl 2 rfl) ?_
      refine lv_aload_n hx hb dX5_nextTerm_3 rfl (lv_at hl 0 rfl) ?_
      refine zg_5_rows hx hb hts i5 hown hK hP (hts _ (List.mem_of_getElem? (i := 1) rfl)) dX5_nextTerm_4 ?_
      refine lv_icmp_ge (tgt := 29) hx hb dX5_nextTerm_7 (by decide) (fun c_7 => ?_) (fun c_7 => ?_)
      · have hm := hm.1 c_7
        exact b29  S _ _ _ hm hP hS (lv_sub hl [0] rfl)
      · have hm := hm.2 c_7
        refine lv_aload_n hx hb dX5_nextTerm_10 rfl (lv_at hl 0 rfl) ?_
        refine zg_5_a hx hb hts i5 hown hK hP (hts _ (List.mem_of_getElem? (i := 2) rfl)) dX5_nextTerm_11 ?_
        refine lv_iload_n hx hb dX5_nextTerm_14 rfl (lv_at hl 2 rfl) ?_
        obtain ⟨h_15, hm⟩ := hm
        refine z_aald hx hb hK hP zQ_13 h_15 dX5_nextTerm_15 ?_
        refine lv_iload_n hx hb dX5_nextTerm_16 rfl (lv_at hl 1 rfl) ?_
        obtain ⟨h_17, hm⟩ := hm
        refine z_iald hx hb hK hP (zRi_13 h_15) h_17 dX5_nextTerm_17 ?_
        refine lv_if_eq (tgt := 23) hx hb dX5_nextTerm_18 (by decide) (fun c_18 => ?_) (fun c_18 => ?_)
        · have hm := hm.1 c_18
          obtain ⟨x3_23, ex3_23⟩ : ∃ y : Int32, y = x3 + (1 : Int32) := ⟨_, rfl⟩
          have hm := hm x3_23 ex3_23
          refine lv_iinc (v := x3_23) (lv' := [(3, .int x3_23), (0, .ref (a 1)), (1, .int x1)]) hx hb dX5_nextTerm_23 hl (k := 2) rfl (by rw [ex3_23]; rfl) (by decide) rfl (fun ls hl => ?_)
          refine lv_goto (tgt := 2) hx hb dX5_nextTerm_26 (by decide) ?_
          exact ih2 x3_23 S _ _ _ hm hP hS (lv_sub hl [1, 2, 0] rfl)
        · have hm := hm.2 c_18
          exact b21 x3 S _ _ _ hm hP hS (lv_sub hl [0, 2] rfl)
  unfold X5_nextTerm at hm
  refine lv_iload_n hx hb dX5_nextTerm_0 rfl (lv_at hl 2 rfl) ?_
  refine lv_istore_n (lv' := [(3, .int y2), (0, .ref (a 1)), (1, .int y1), (2, .int y2)]) hx hb dX5_nextTerm_1 rfl hl (by decide) rfl (fun ls hl => ?_)
  obtain ⟨n2, hm⟩ := hm
  exact L2 y1 n2 y2 S _ _ _ hm hP hS (lv_sub hl [1, 2, 0] rfl)

