abbrev rm_X6_column : Room := { frames := 6, cells := 1, slots := 6, locals := 90 }
def X6_column_b40 (S : ZS) (Q : Int32 → ZS → Prop) (X : String → ZS → Prop) : Prop :=
  X "java/lang/IllegalArgumentException" S
def X6_column (y1 : Int32) (y2 : Int32) (y3 : Int32) (S : ZS) (Q : Int32 → ZS → Prop) (X : String → ZS → Prop) : Prop :=
  ((S.1 1 0) < (10 : Int32) → X6_areBounds y1 y2 S (fun r_24 S_24 => (r_24 = 0 → X6_column_b40 S_24 Q X) ∧ (¬ r_24 = 0 → X6_isWithin y3 (1000 : Int32) S_24 (fun r_34 S_34 => (r_34 = 0 → X6_column_b40 S_34 Q X) ∧ (¬ r_34 = 0 → ∀ S_52 : ZS, S_52 = zu S_34 0 7 (0 : Int32) → X5_addColumn y1 y2 y3 S_52 (fun r_62 S_62 => Q r_62 S_62)))))) ∧ (¬ (S.1 1 0) < (10 : Int32) → X "java/lang/IllegalStateException" S)
set_option maxHeartbeats 4000000 in
set_option maxRecDepth 100000 in
theorem c_X6_column (l : Launch) (hlt : l.stackTraces = false) (D : va_G) (k : Nat → ClassId) (a : Nat → Nat) (hj : zDj a) (y1 : Int32) (y2 : Int32) (y3 : Int32) (S : ZS) (Q : Int32 → ZS → Prop) (X : String → ZS → Prop) (hm : X6_column y1 y2 y3 S Q X) (sz : Nat) : vx_Met l yX6_column wsX6_column rm_X6_column (zPcX D k a [.ref (a 0), .int y1, .int y2, .int y3] S sz) (va_Qi Q (zB D k a) (zA a sz)) (zXC D k a X sz) 1 6 (zA a sz) := by
  refine vx_ofW (cc := cX6_column) (maxL := 4) (ret := (some .int)) (by decide) rfl ?_
  intro p e s m args below meth c s₁ B hml hxt hv
  obtain ⟨rfl, hsz, hP, hK, hX⟩ := hv
  have hx := B.exec
  have hb := B.bytes
  have hr := B.returns
  have hts := atoms_spec (ws := wsX6_column) B.pre
  have hown : s.vm.findClass RX6 = some m.cls := findClass_of_methodNamed B.named
  have hlocks := B.notSynchronized
  subst hsz
  have hS : va_S (zA a s.heap.size) s.heap s.heap [] := va_S.rf
  have hF : CallFix p m c cX6_column 4 s _ wsX6_column RX6 := ⟨hx, hb, hml, hown, hts⟩
  have i5 : ∀ w ∈ wsX50, w ∈ wsX6_column := fun _ h => (List.mem_cons_of_mem _ (List.mem_append_left _ (List.mem_append_left _ (List.mem_append_right _ h))))
  have i6 : ∀ w ∈ wsX60, w ∈ wsX6_column := fun _ h => (List.mem_cons_of_mem _ (List.mem_append_left _ (List.mem_append_left _ (List.mem_append_left _ (List.mem_append_right _ h)))))
  have hl := lv_entry ([.ref (a 0), .int y1, .int y2, .int y3]) (n := 4) (Nat.le_of_ble_eq_true rfl)
  rw [lg_entry_eq]
  generalize (lg_sl ([.ref (a 0), .int y1, .int y2, .int y3]) ++ List.replicate (4 - (lg_sl ([.ref (a 0), .int y1, .int y2, .int y3])).length) Slot.unset).toArray = ls at hl ⊢
  have hl : lv_has ls 4 [(0, .ref (a 0)), (1, .int y1), (2, .int y2), (3, .int y3)] := hl
  have b40 : ∀ (S : ZS) (H : Heap) (locs : List Loc) (ls : Array Slot), X6_column_b40 S Q X → va_P D vwCl (zWS k a S) H → va_S (zA a s.heap.size) s.heap H locs → lv_has ls 4 [(0, .ref (a 0))] → zYi p l e (headSpec wsX6_column rm_X6_column).room s m ([.ref (a 0), .int y1, .int y2, .int y3] : List Value) below meth c D k a Q X 1 6 0 0 H locs (F0 m 40 ls []) := by
    intro S H locs ls hm hP hS hl
    unfold X6_column_b40 at hm
    exact z_throw (text := "a number of the column is not as told") hx hb hlt hlocks hxt hown hts (List.mem_of_getElem? (i := 3) rfl) (List.mem_of_getElem? (i := 4) rfl) (fun _ h => (List.mem_cons_of_mem _ (List.mem_append_right _ h))) zbw_80 (by decide +kernel) (by decide +kernel) zfit (by decide +kernel) hX hP hS (hl.1.trans hml.symm) dX6_column_40 dX6_column_43 dX6_column_44 dX6_column_46 dX6_column_49 (Nat.le_of_ble_eq_true rfl) (Nat.le_of_ble_eq_true rfl) (Nat.le_of_ble_eq_true rfl) (Nat.le_of_ble_eq_true rfl) (Nat.le_of_ble_eq_true rfl) (Nat.le_of_ble_eq_true rfl) hm
  unfold X6_column at hm
  refine lv_aload_n hx hb dX6_column_0 rfl (lv_at hl 0 rfl) ?_
  refine zg_6_whole hx hb hts i6 hown hK hP (hts _ (List.mem_of_getElem? (i := 5) rfl)) dX6_column_1 ?_
  refine zg_5_columns hx hb hts i5 hown hK hP (hts _ (List.mem_of_getElem? (i := 6) rfl)) dX6_column_4 ?_
  refine lv_bipush (v := (10 : Int32)) hx hb dX6_column_7 (by decide) ?_
  refine lv_icmp_lt (tgt := 22) hx hb dX6_column_9 (by decide) (fun c_9 => ?_) (fun c_9 => ?_)
  · have hm := hm.1 c_9
    refine lv_iload_n hx hb dX6_column_22 rfl (lv_at hl 1 rfl) ?_
    refine lv_iload_n hx hb dX6_column_23 rfl (lv_at hl 2 rfl) ?_
    refine z_cSi (As := [.int y1, .int y2]) (rest := []) hF hK hP hS (c_X6_areBounds l D k a hj y1 y2 S _ hm _) (va_cwS 2 hts gX6_column_X6_areBounds rfl rfl rfl (by decide +kernel) ⟨Nat.le_of_ble_eq_true rfl, Nat.le_of_ble_eq_true rfl⟩) rfl hl.1 rfl (Nat.le_of_ble_eq_true rfl) dX6_column_24 ⟨Nat.le_of_ble_eq_true rfl, Nat.le_of_ble_eq_true rfl⟩ (fun r_24 S_24 H locs hm hP hS => ?_)
    refine lv_if_eq (tgt := 40) hx hb dX6_column_27 (by decide) (fun c_27 => ?_) (fun c_27 => ?_)
    · have hm := hm.1 c_27
      exact b40  S_24 _ _ _ hm hP hS (lv_sub hl [0] rfl)
    · have hm := hm.2 c_27
      refine lv_iload_n hx hb dX6_column_30 rfl (lv_at hl 3 rfl) ?_
      refine lv_sipush (v := (1000 : Int32)) hx hb dX6_column_31 (by decide) ?_
      refine z_cSi (As := [.int y3, .int (1000 : Int32)]) (rest := []) hF hK hP hS (c_X6_isWithin l D k a hj y3 (1000 : Int32) S_24 _ hm _) (va_cwS 2 hts gX6_column_X6_isWithin rfl rfl rfl (by decide +kernel) ⟨Nat.le_of_ble_eq_true rfl, Nat.le_of_ble_eq_true rfl⟩) rfl hl.1 rfl (Nat.le_of_ble_eq_true rfl) dX6_column_34 ⟨Nat.le_of_ble_eq_true rfl, Nat.le_of_ble_eq_true rfl⟩ (fun r_34 S_34 H locs hm hP hS => ?_)
      refine lv_if_ne (tgt := 50) hx hb dX6_column_37 (by decide) (fun c_37 => ?_) (fun c_37 => ?_)
      · have hm := hm.2 c_37
        refine lv_aload_n hx hb dX6_column_50 rfl (lv_at hl 0 rfl) ?_
        refine lv_iconst (v := (0 : Int32)) hx hb dX6_column_51 (by decide) ?_
        refine zp_6_solved hx hb hts i6 hown hj hK hP hS (hts _ (List.mem_of_getElem? (i := 7) rfl)) dX6_column_52 (fun H locs hP hS => ?_)
        obtain ⟨S_52, eS_52⟩ : ∃ z : ZS, z = zu S_34 0 7 (0 : Int32) := ⟨_, rfl⟩
        rw [← eS_52] at hP
        have hm := hm S_52 eS_52
        refine lv_aload_n hx hb dX6_column_55 rfl (lv_at hl 0 rfl) ?_
        refine zg_6_whole hx hb hts i6 hown hK hP (hts _ (List.mem_of_getElem? (i := 5) rfl)) dX6_column_56 ?_
        refine lv_iload_n hx hb dX6_column_59 rfl (lv_at hl 1 rfl) ?_
        refine lv_iload_n hx hb dX6_column_60 rfl (lv_at hl 2 rfl) ?_
        refine lv_iload_n hx hb dX6_column_61 rfl (lv_at hl 3 rfl) ?_
        refine z_cVi (As := [.int y1, .int y2, .int y3]) (rest := []) hF hK hP hS zO_1 rfl rfl (c_X5_addColumn l D k a hj y1 y2 y3 S_52 _ hm _) (cwV 3 hts gX6_column_X5_addColumn rfl rfl rfl (by decide +kernel) ⟨Nat.le_of_ble_eq_true rfl, Nat.le_of_ble_eq_true rfl⟩) rfl hl.1 rfl (Nat.le_of_ble_eq_true rfl) dX6_column_62 ⟨Nat.le_of_ble_eq_true rfl, Nat.le_of_ble_eq_true rfl⟩ (fun r_62 S_62 H locs hm hP hS => ?_)
        exact z_retiX hx hb hr hlocks hP hS (Nat.le_of_ble_eq_true rfl) (Nat.le_of_ble_eq_true rfl) hm dX6_column_65
      · have hm := hm.1 c_37
        exact b40  S_34 _ _ _ hm hP hS (lv_sub hl [0] rfl)
  · have hm := hm.2 c_9
    exact z_throw (text := "there are 10 columns") hx hb hlt hlocks hxt hown hts (List.mem_of_getElem? (i := 1) rfl) (List.mem_of_getElem? (i := 2) rfl) (fun _ h => (List.mem_cons_of_mem _ (List.mem_append_left _ (List.mem_append_right _ h)))) zbw_66 (by decide +kernel) (by decide +kernel) zfit (by decide +kernel) hX hP hS (hl.1.trans hml.symm) dX6_column_12 dX6_column_15 dX6_column_16 dX6_column_18 dX6_column_21 (Nat.le_of_ble_eq_true rfl) (Nat.le_of_ble_eq_true rfl) (Nat.le_of_ble_eq_true rfl) (Nat.le_of_ble_eq_true rfl) (Nat.le_of_ble_eq_true rfl) (Nat.le_of_ble_eq_true rfl) hm

abbrev rm_X6_row : Room := { frames := 6, cells := 1, slots := 6, locals := 90 }
def X6_row_b50 (S : ZS) (Q : Int32 → ZS → Prop) (X : String → ZS → Prop) : Prop :=
  X "java/lang/IllegalArgumentException" S
def X6_row_b36 (x1 : Int32) (x2 : Int32) (t0 : Int32) (S : ZS) (Q : Int32 → ZS → Prop) (X : String → ZS → Prop) : Prop :=
  (t0 = 0 → X6_row_b50 S Q X) ∧ (¬ t0 = 0 → X6_isWithin x2 (100000 : Int32) S (fun r_44 S_44 => (r_44 = 0 → X6_row_b50 S_44 Q X) ∧ (¬ r_44 = 0 → ∀ S_62 : ZS, S_62 = zu S_44 0 7 (0 : Int32) → X5_addRow x1 x2 S_62 (fun r_71 S_71 => Q r_71 S_71))))
def X6_row_b31 (x1 : Int32) (x2 : Int32) (S : ZS) (Q : Int32 → ZS → Prop) (X : String → ZS → Prop) : Prop :=
  X6_row_b36 x1 x2 (1 : Int32) S Q X
def X6_row (y1 : Int32) (y2 : Int32) (S : ZS) (Q : Int32 → ZS → Prop) (X : String → ZS → Prop) : Prop :=
  ((S.1 1 1) < (8 : Int32) → (y1 = 0 → X6_row_b31 y1 y2 S Q X) ∧ (¬ y1 = 0 → (y1 = (1 : Int32) → X6_row_b31 y1 y2 S Q X) ∧ (¬ y1 = (1 : Int32) → X6_row_b36 y1 y2 (0 : Int32) S Q X))) ∧ (¬ (S.1 1 1) < (8 : Int32) → X "java/lang/IllegalStateException" S)
set_option maxHeartbeats 4000000 in
set_option maxRecDepth 100000 in
theorem c_X6_row (l : Launch) (hlt : l.stackTraces = false) (D : va_G) (k : Nat → ClassId) (a : Nat → Nat) (hj : zDj a) (y1 : Int32) (y2 : Int32) (S : ZS) (Q : Int32 → ZS → Prop) (X : String → ZS → Prop) (hm : X6_row y1 y2 S Q X) (sz : Nat) : vx_Met l yX6_row wsX6_row rm_X6_row (zPcX D k a [.ref (a 0), .int y1, .int y2] S sz) (va_Qi Q (zB D k a) (zA a sz)) (zXC D k a X sz) 1 6 (zA a sz) := by
  refine vx_ofW (cc := cX6_row) (maxL := 4) (ret := (some .int)) (by decide) rfl ?_
  intro p e s m args below meth c s₁ B hml hxt hv
  obtain ⟨rfl, hsz, hP, hK, hX⟩ := hv
  have hx := B.exec
  have hb := B.bytes
  have hr := B.returns
  have hts := atoms_spec (ws := wsX6_row) B.pre
  have hown : s.vm.findClass RX6 = some m.cls := findClass_of_methodNamed B.named
  have hlocks := B.notSynchronized
  subst hsz
  have hS : va_S (zA a s.heap.size) s.heap s.heap [] := va_S.rf
  have hF : CallFix p m c cX6_row 4 s _ wsX6_row RX6 := ⟨hx, hb, hml, hown, hts⟩
  have i5 : ∀ w ∈ wsX50, w ∈ wsX6_row := fun _ h => (List.mem_cons_of_mem _ (List.mem_append_left _ (List.mem_append_left _ (List.mem_append_right _ h))))
  have i6 : ∀ w ∈ wsX60, w ∈ wsX6_row := fun _ h => (List.mem_cons_of_mem _ (List.mem_append_left _ (List.mem_append_left _ (List.mem_append_left _ (List.mem_append_right _ h)))))
  have hl := lv_entry ([.ref (a 0), .int y1, .int y2]) (n := 4) (Nat.le_of_ble_eq_true rfl)
  rw [lg_entry_eq]
  generalize (lg_sl ([.ref (a 0), .int y1, .int y2]) ++ List.replicate (4 - (lg_sl ([.ref (a 0), .int y1, .int y2])).length) Slot.unset).toArray = ls at hl ⊢
  have hl : lv_has ls 4 [(0, .ref (a 0)), (1, .int y1), (2, .int y2)] := hl
  have b36 : ∀ (x1 : Int32) (x2 : Int32) (t0 : Int32) (S : ZS) (H : Heap) (locs : List Loc) (ls : Array Slot), X6_row_b36 x1 x2 t0 S Q X → va_P D vwCl (zWS k a S) H → va_S (zA a s.heap.size) s.heap H locs → lv_has ls 4 [(0, .ref (a 0)), (1, .int x1), (2, .int x2)] → zYi p l e (headSpec wsX6_row rm_X6_row).room s m ([.ref (a 0), .int y1, .int y2] : List Value) below meth c D k a Q X 1 6 0 0 H locs (F0 m 36 ls [.int t0]) := by
    intro x1 x2 t0 S H locs ls hm hP hS hl
    unfold X6_row_b36 at hm
    have b50 : ∀ (S : ZS) (H : Heap) (locs : List Loc) (ls : Array Slot), X6_row_b50 S Q X → va_P D vwCl (zWS k a S) H → va_S (zA a s.heap.size) s.heap H locs → lv_has ls 4 [(0, .ref (a 0))] → zYi p l e (headSpec wsX6_row rm_X6_row).room s m ([.ref (a 0), .int y1, .int y2] : List Value) below meth c D k a Q X 1 6 0 0 H locs (F0 m 50 ls []) := by
      intro S H locs ls hm hP hS hl
      unfold X6_row_b50 at hm
      exact z_throw (text := "a number of the row is not as told") hx hb hlt hlocks hxt hown hts (List.mem_of_getElem? (i := 3) rfl) (List.mem_of_getElem? (i := 4) rfl) (fun _ h => (List.mem_cons_of_mem _ (List.mem_append_right _ h))) zbw_80 (by decide +kernel) (by decide +kernel) zfit (by decide +kernel) hX hP hS (hl.1.trans hml.symm) dX6_row_50 dX6_row_53 dX6_row_54 dX6_row_56 dX6_row_59 (Nat.le_of_ble_eq_true rfl) (Nat.le_of_ble_eq_true rfl) (Nat.le_of_ble_eq_true rfl) (Nat.le_of_ble_eq_true rfl) (Nat.le_of_ble_eq_true rfl) (Nat.le_of_ble_eq_true rfl) hm
    refine lv_istore_n (lv' := [(3, .int t0), (0, .ref (a 0)), (1, .int x1), (2, .int x2)]) hx hb dX6_row_36 rfl hl (by decide) rfl (fun ls hl => ?_)
    refine lv_iload_n hx hb dX6_row_37 rfl (lv_at hl 0 rfl) ?_
    refine lv_if_eq (tgt := 50) hx hb dX6_row_38 (by decide) (fun c_38 => ?_) (fun c_38 => ?_)
    · have hm := hm.1 c_38
      exact b50  S _ _ _ hm hP hS (lv_sub hl [1] rfl)
    · have hm := hm.2 c_38
      refine lv_iload_n hx hb dX6_row_41 rfl (lv_at hl 3 rfl) ?_
      refine lv_ldc (v := (100000 : Int32)) hx hb hown (hts _ (List.mem_of_getElem? (i := 7) rfl)) dX6_row_42 ?_
      refine z_cSi (As := [.int x2, .int (100000 : Int32)]) (rest := []) hF hK hP hS (c_X6_isWithin l D k a hj x2 (100000 : Int32) S _ hm _) (va_cwS 2 hts gX6_row_X6_isWithin rfl rfl rfl (by decide +kernel) ⟨Nat.le_of_ble_eq_true rfl, Nat.le_of_ble_eq_true rfl⟩) rfl hl.1 rfl (Nat.le_of_ble_eq_true rfl) dX6_row_44 ⟨Nat.le_of_ble_eq_true rfl, Nat.le_of_ble_eq_true rfl⟩ (fun r_44 S_44 H locs hm hP hS => ?_)
      refine lv_if_ne (tgt := 60) hx hb dX6_row_47 (by decide) (fun c_47 => ?_) (fun c_47 => ?_)
      · have hm := hm.2 c_47
        refine lv_aload_n hx hb dX6_row_60 rfl (lv_at hl 1 rfl) ?_
        refine lv_iconst (v := (0 : Int32)) hx hb dX6_row_61 (by decide) ?_
        refine zp_6_solved hx hb hts i6 hown hj hK hP hS (hts _ (List.mem_of_getElem? (i := 8) rfl)) dX6_row_62 (fun H locs hP hS => ?_)
        obtain ⟨S_62, eS_62⟩ : ∃ z : ZS, z = zu S_44 0 7 (0 : Int32) := ⟨_, rfl⟩
        rw [← eS_62] at hP
        have hm := hm S_62 eS_62
        refine lv_aload_n hx hb dX6_row_65 rfl (lv_at hl 1 rfl) ?_
        refine zg_6_whole hx hb hts i6 hown hK hP (hts _ (List.mem_of_getElem? (i := 5) rfl)) dX6_row_66 ?_
        refine lv_iload_n hx hb dX6_row_69 rfl (lv_at hl 2 rfl) ?_
        refine lv_iload_n hx hb dX6_row_70 rfl (lv_at hl 3 rfl) ?_
        refine z_cVi (As := [.int x1, .int x2]) (rest := []) hF hK hP hS zO_1 rfl rfl (c_X5_addRow l D k a hj x1 x2 S_62 _ hm _) (cwV 2 hts gX6_row_X5_addRow rfl rfl rfl (by decide +kernel) ⟨Nat.le_of_ble_eq_true rfl, Nat.le_of_ble_eq_true rfl⟩) rfl hl.1 rfl (Nat.le_of_ble_eq_true rfl) dX6_row_71 ⟨Nat.le_of_ble_eq_true rfl, Nat.le_of_ble_eq_true rfl⟩ (fun r_71 S_71 H locs hm hP hS => ?_)
        exact z_retiX hx hb hr hlocks hP hS (Nat.le_of_ble_eq_true rfl) (Nat.le_of_ble_eq_true rfl) hm dX6_row_74
      · have hm := hm.1 c_47
        exact b50  S_44 _ _ _ hm hP hS (lv_sub hl [1] rfl)
  have b31 : ∀ (x1 : Int32) (x2 : Int32) (S : ZS) (H : Heap) (locs : List Loc) (ls : Array Slot), X6_row_b31 x1 x2 S Q X → va_P D vwCl (zWS k a S) H → va_S (zA a s.heap.size) s.heap H locs → lv_has ls 4 [(0, .ref (a 0)), (1, .int x1), (2, .int x2)] → zYi p l e (headSpec wsX6_row rm_X6_row).room s m ([.ref (a 0), .int y1, .int y2] : List Value) below meth c D k a Q X 1 6 0 0 H locs (F0 m 31 ls []) := by
    intro x1 x2 S H locs ls hm hP hS hl
    unfold X6_row_b31 at hm
    refine lv_iconst (v := (1 : Int32)) hx hb dX6_row_31 (by decide) ?_
    refine lv_goto (tgt := 36) hx hb dX6_row_32 (by decide) ?_
    exact b36 x1 x2 (1 : Int32) S _ _ _ hm hP hS (lv_sub hl [0, 1, 2] rfl)
  unfold X6_row at hm
  refine lv_aload_n hx hb dX6_row_0 rfl (lv_at hl 0 rfl) ?_
  refine zg_6_whole hx hb hts i6 hown hK hP (hts _ (List.mem_of_getElem? (i := 5) rfl)) dX6_row_1 ?_
  refine zg_5_rows hx hb hts i5 hown hK hP (hts _ (List.mem_of_getElem? (i := 6) rfl)) dX6_row_4 ?_
  refine lv_bipush (v := (8 : Int32)) hx hb dX6_row_7 (by decide) ?_
  refine lv_icmp_lt (tgt := 22) hx hb dX6_row_9 (by decide) (fun c_9 => ?_) (fun c_9 => ?_)
  · have hm := hm.1 c_9
    refine lv_iload_n hx hb dX6_row_22 rfl (lv_at hl 1 rfl) ?_
    refine lv_if_eq (tgt := 31) hx hb dX6_row_23 (by decide) (fun c_23 => ?_) (fun c_23 => ?_)
    · have hm := hm.1 c_23
      exact b31 y1 y2 S _ _ _ hm hP hS (lv_sub hl [0, 1, 2] rfl)
    · have hm := hm.2 c_23
      refine lv_iload_n hx hb dX6_row_26 rfl (lv_at hl 1 rfl) ?_
      refine lv_iconst (v := (1 : Int32)) hx hb dX6_row_27 (by decide) ?_
      refine lv_icmp_ne (tgt := 35) hx hb dX6_row_28 (by decide) (fun c_28 => ?_) (fun c_28 => ?_)
      · have hm := hm.2 c_28
        refine lv_iconst (v := (0 : Int32)) hx hb dX6_row_35 (by decide) ?_
        exact b36 y1 y2 (0 : Int32) S _ _ _ hm hP hS (lv_sub hl [0, 1, 2] rfl)
      · have hm := hm.1 c_28
        exact b31 y1 y2 S _ _ _ hm hP hS (lv_sub hl [0, 1, 2] rfl)
  · have hm := hm.2 c_9
    exact z_throw (text := "there are 8 rows") hx hb hlt hlocks hxt hown hts (List.mem_of_getElem? (i := 1) rfl) (List.mem_of_getElem? (i := 2) rfl) (fun _ h => (List.mem_cons_of_mem _ (List.mem_append_left _ (List.mem_append_right _ h)))) zbw_66 (by decide +kernel) (by decide +kernel) zfit (by decide +kernel) hX hP hS (hl.1.trans hml.symm) dX6_row_12 dX6_row_15 dX6_row_16 dX6_row_18 dX6_row_21 (Nat.le_of_ble_eq_true rfl) (Nat.le_of_ble_eq_true rfl) (Nat.le_of_ble_eq_true rfl) (Nat.le_of_ble_eq_true rfl) (Nat.le_of_ble_eq_true rfl) (Nat.le_of_ble_eq_true rfl) hm

abbrev rm_X6_needRow : Room := { frames := 6, cells := 1, slots := 6, locals := 90 }
def X6_needRow_b15 (S : ZS) (Q : ZS → Prop) (X : String → ZS → Prop) : Prop :=
  X "java/lang/IndexOutOfBoundsException" S
def X6_needRow (y1 : Int32) (S : ZS) (Q : ZS → Prop) (X : String → ZS → Prop) : Prop :=
  (y1 < 0 → X6_needRow_b15 S Q X) ∧ (¬ y1 < 0 → (y1 < (S.1 1 1) → Q S) ∧ (¬ y1 < (S.1 1 1) → X6_needRow_b15 S Q X))
set_option maxHeartbeats 4000000 in
set_option maxRecDepth 100000 in
theorem c_X6_needRow (l : Launch) (hlt : l.stackTraces = false) (D : va_G) (k : Nat → ClassId) (a : Nat → Nat) (hj : zDj a) (y1 : Int32) (S : ZS) (Q : ZS → Prop) (X : String → ZS → Prop) (hm : X6_needRow y1 S Q X) (sz : Nat) : vx_Met l yX6_needRow wsX6_needRow rm_X6_needRow (zPcX D k a [.ref (a 0), .int y1] S sz) (va_Qv Q (zB D k a) (zA a sz)) (zXC D k a X sz) 1 6 (zA a sz) := by
  refine vx_ofW (cc := cX6_needRow) (maxL := 2) (ret := none) (by decide) rfl ?_
  intro p e s m args below meth c s₁ B hml hxt hv
  obtain ⟨rfl, hsz, hP, hK, hX⟩ := hv
  have hx := B.exec
  have hb := B.bytes
  have hr := B.returns
  have hts := atoms_spec (ws := wsX6_needRow) B.pre
  have hown : s.vm.findClass RX6 = some m.cls := findClass_of_methodNamed B.named
  have hlocks := B.notSynchronized
  subst hsz
  have hS : va_S (zA a s.heap.size) s.heap s.heap [] := va_S.rf
  have hF : CallFix p m c cX6_needRow 2 s _ wsX6_needRow RX6 := ⟨hx, hb, hml, hown, hts⟩
  have i5 : ∀ w ∈ wsX50, w ∈ wsX6_needRow := fun _ h => (List.mem_cons_of_mem _ (List.mem_append_left _ (List.mem_append_right _ h)))
  have i6 : ∀ w ∈ wsX60, w ∈ wsX6_needRow := fun _ h => (List.mem_cons_of_mem _ (List.mem_append_left _ (List.mem_append_left _ (List.mem_append_right _ h))))
  have hl := lv_entry ([.ref (a 0), .int y1]) (n := 2) (Nat.le_of_ble_eq_true rfl)
  rw [lg_entry_eq]
  generalize (lg_sl ([.ref (a 0), .int y1]) ++ List.replicate (2 - (lg_sl ([.ref (a 0), .int y1])).length) Slot.unset).toArray = ls at hl ⊢
  have hl : lv_has ls 2 [(0, .ref (a 0)), (1, .int y1)] := hl
  have b15 : ∀ (S : ZS) (H : Heap) (locs : List Loc) (ls : Array Slot), X6_needRow_b15 S Q X → va_P D vwCl (zWS k a S) H → va_S (zA a s.heap.size) s.heap H locs → lv_has ls 2 [(0, .ref (a 0))] → zYv p l e (headSpec wsX6_needRow rm_X6_needRow).room s m ([.ref (a 0), .int y1] : List Value) below meth c D k a Q X 1 6 0 0 H locs (F0 m 15 ls []) := by
    intro S H locs ls hm hP hS hl
    unfold X6_needRow_b15 at hm
    exact z_throw (text := "there is no such row") hx hb hlt hlocks hxt hown hts (List.mem_of_getElem? (i := 1) rfl) (List.mem_of_getElem? (i := 2) rfl) (fun _ h => (List.mem_cons_of_mem _ (List.mem_append_right _ h))) zbw_213 (by decide +kernel) (by decide +kernel) zfit (by decide +kernel) hX hP hS (hl.1.trans hml.symm) dX6_needRow_15 dX6_needRow_18 dX6_needRow_19 dX6_needRow_21 dX6_needRow_24 (Nat.le_of_ble_eq_true rfl) (Nat.le_of_ble_eq_true rfl) (Nat.le_of_ble_eq_true rfl) (Nat.le_of_ble_eq_true rfl) (Nat.le_of_ble_eq_true rfl) (Nat.le_of_ble_eq_true rfl) hm
  unfold X6_needRow at hm
  refine lv_iload_n hx hb dX6_needRow_0 rfl (lv_at hl 1 rfl) ?_
  refine lv_if_lt (tgt := 15) hx hb dX6_needRow_1 (by decide) (fun c_1 => ?_) (fun c_1 => ?_)
  · have hm := hm.1 c_1
    exact b15  S _ _ _ hm hP hS (lv_sub hl [0] rfl)
  · have hm := hm.2 c_1
    refine lv_iload_n hx hb dX6_needRow_4 rfl (lv_at hl 1 rfl) ?_
    refine lv_aload_n hx hb dX6_needRow_5 rfl (lv_at hl 0 rfl) ?_
    refine zg_6_whole hx hb hts i6 hown hK hP (hts _ (List.mem_of_getElem? (i := 3) rfl)) dX6_needRow_6 ?_
    refine zg_5_rows hx hb hts i5 hown hK hP (hts _ (List.mem_of_getElem? (i := 4) rfl)) dX6_needRow_9 ?_
    refine lv_icmp_lt (tgt := 25) hx hb dX6_needRow_12 (by decide) (fun c_12 => ?_) (fun c_12 => ?_)
    · have hm := hm.1 c_12
      exact z_retvX hx hb hr hlocks hP hS (Nat.le_of_ble_eq_true rfl) (Nat.le_of_ble_eq_true rfl) hm dX6_needRow_25
    · have hm := hm.2 c_12
      exact b15  S _ _ _ hm hP hS (lv_sub hl [0] rfl)

abbrev rm_X6_needColumn : Room := { frames := 6, cells := 1, slots := 6, locals := 90 }
def X6_needColumn_b15 (S : ZS) (Q : ZS → Prop) (X : String → ZS → Prop) : Prop :=
  X "java/lang/IndexOutOfBoundsException" S
def X6_needColumn (y1 : Int32) (S : ZS) (Q : ZS → Prop) (X : String → ZS → Prop) : Prop :=
  (y1 < 0 → X6_needColumn_b15 S Q X) ∧ (¬ y1 < 0 → (y1 < (S.1 1 0) → Q S) ∧ (¬ y1 < (S.1 1 0) → X6_needColumn_b15 S Q X))
set_option maxHeartbeats 4000000 in
set_option maxRecDepth 100000 in
theorem c_X6_needColumn (l : Launch) (hlt : l.stackTraces = false) (D : va_G) (k : Nat → ClassId) (a : Nat → Nat) (hj : zDj a) (y1 : Int32) (S : ZS) (Q : ZS → Prop) (X : String → ZS → Prop) (hm : X6_needColumn y1 S Q X) (sz : Nat) : vx_Met l yX6_needColumn wsX6_needColumn rm_X6_needColumn (zPcX D k a [.ref (a 0), .int y1] S sz) (va_Qv Q (zB D k a) (zA a sz)) (zXC D k a X sz) 1 6 (zA a sz) := by
  refine vx_ofW (cc := cX6_needColumn) (maxL := 2) (ret := none) (by decide) rfl ?_
  intro p e s m args below meth c s₁ B hml hxt hv
  obtain ⟨rfl, hsz, hP, hK, hX⟩ := hv
  have hx := B.exec
  have hb := B.bytes
  have hr := B.returns
  have hts := atoms_spec (ws := wsX6_needColumn) B.pre
  have hown : s.vm.findClass RX6 = some m.cls := findClass_of_methodNamed B.named
  have hlocks := B.notSynchronized
  subst hsz
  have hS : va_S (zA a s.heap.size) s.heap s.heap [] := va_S.rf
  have hF : CallFix p m c cX6_needColumn 2 s _ wsX6_needColumn RX6 := ⟨hx, hb, hml, hown, hts⟩
  have i5 : ∀ w ∈ wsX50, w ∈ wsX6_needColumn := fun _ h => (List.mem_cons_of_mem _ (List.mem_append_left _ (List.mem_append_right _ h)))
  have i6 : ∀ w ∈ wsX60, w ∈ wsX6_needColumn := fun _ h => (List.mem_cons_of_mem _ (List.mem_append_left _ (List.mem_append_left _ (List.mem_append_right _ h))))
  have hl := lv_entry ([.ref (a 0), .int y1]) (n := 2) (Nat.le_of_ble_eq_true rfl)
  rw [lg_entry_eq]
  generalize (lg_sl ([.ref (a 0), .int y1]) ++ List.replicate (2 - (lg_sl ([.ref (a 0), .int y1])).length) Slot.unset).toArray = ls at hl ⊢
  have hl : lv_has ls 2 [(0, .ref (a 0)), (1, .int y1)] := hl
  have b15 : ∀ (S : ZS) (H : Heap) (locs : List Loc) (ls : Array Slot), X6_needColumn_b15 S Q X → va_P D vwCl (zWS k a S) H → va_S (zA a s.heap.size) s.heap H locs → lv_has ls 2 [(0, .ref (a 0))] → zYv p l e (headSpec wsX6_needColumn rm_X6_needColumn).room s m ([.ref (a 0), .int y1] : List Value) below meth c D k a Q X 1 6 0 0 H locs (F0 m 15 ls []) := by
    intro S H locs ls hm hP hS hl
    unfold X6_needColumn_b15 at hm
    exact z_throw (text := "there is no such column") hx hb hlt hlocks hxt hown hts (List.mem_of_getElem? (i := 1) rfl) (List.mem_of_getElem? (i := 2) rfl) (fun _ h => (List.mem_cons_of_mem _ (List.mem_append_right _ h))) zbw_213 (by decide +kernel) (by decide +kernel) zfit (by decide +kernel) hX hP hS (hl.1.trans hml.symm) dX6_needColumn_15 dX6_needColumn_18 dX6_needColumn_19 dX6_needColumn_21 dX6_needColumn_24 (Nat.le_of_ble_eq_true rfl) (Nat.le_of_ble_eq_true rfl) (Nat.le_of_ble_eq_true rfl) (Nat.le_of_ble_eq_true rfl) (Nat.le_of_ble_eq_true rfl) (Nat.le_of_ble_eq_true rfl) hm
  unfold X6_needColumn at hm
  refine lv_iload_n hx hb dX6_needColumn_0 rfl (lv_at hl 1 rfl) ?_
  refine lv_if_lt (tgt := 15) hx hb dX6_needColumn_1 (by decide) (fun c_1 => ?_) (fun c_1 => ?_)
  · have hm := hm.1 c_1
    exact b15  S _ _ _ hm hP hS (lv_sub hl [0] rfl)
  · have hm := hm.2 c_1
    refine lv_iload_n hx hb dX6_needColumn_4 rfl (lv_at hl 1 rfl) ?_
    refine lv_aload_n hx hb dX6_needColumn_5 rfl (lv_at hl 0 rfl) ?_
    refine zg_6_whole hx hb hts i6 hown hK hP (hts _ (List.mem_of_getElem? (i := 3) rfl)) dX6_needColumn_6 ?_
    refine zg_5_columns hx hb hts i5 hown hK hP (hts _ (List.mem_of_getElem? (i := 4) rfl)) dX6_needColumn_9 ?_
    refine lv_icmp_lt (tgt := 25) hx hb dX6_needColumn_12 (by decide) (fun c_12 => ?_) (fun c_12 => ?_)
    · have hm := hm.1 c_12
      exact z_retvX hx hb hr hlocks hP hS (Nat.le_of_ble_eq_true rfl) (Nat.le_of_ble_eq_true rfl) hm dX6_needColumn_25
    · have hm := hm.2 c_12
      exact b15  S _ _ _ hm hP hS (lv_sub hl [0] rfl)

abbrev rm_X6_term : Room := { frames := 7, cells := 3, slots := 18, locals := 111 }
def X6_term (y1 : Int32) (y2 : Int32) (y3 : Int32) (S : ZS) (Q : ZS → Prop) (X : String → ZS → Prop) : Prop :=
  X6_needRow y1 S (fun S_2 => X6_needColumn y2 S_2 (fun S_7 => X6_isWithin y3 (100 : Int32) S_7 (fun r_13 S_13 => (r_13 = 0 → X "java/lang/IllegalArgumentException" S_13) ∧ (¬ r_13 = 0 → ∀ S_31 : ZS, S_31 = zu S_13 0 7 (0 : Int32) → vp_in y1 8 ∧ vp_in y2 10 ∧ ∀ S_45 : ZS, S_45 = zu S_31 (14 + (y1).toNatClampNeg) (y2).toNatClampNeg y3 → Q S_45))) X) X
set_option maxHeartbeats 4000000 in
set_option maxRecDepth 100000 in
theorem c_X6_term (l : Launch) (hlt : l.stackTraces = false) (D : va_G) (k : Nat → ClassId) (a : Nat → Nat) (hj : zDj a) (y1 : Int32) (y2 : Int32) (y3 : Int32) (S : ZS) (Q : ZS → Prop) (X : String → ZS → Prop) (hm : X6_term y1 y2 y3 S Q X) (sz : Nat) : vx_Met l yX6_term wsX6_term rm_X6_term (zPcX D k a [.ref (a 0), .int y1, .int y2, .int y3] S sz) (va_Qv Q (zB D k a) (zA a sz)) (zXC D k a X sz) 3 18 (zA a sz) := by
  refine vx_ofW (cc := cX6_term) (maxL := 4) (ret := none) (by decide) rfl ?_
  intro p e s m args below meth c s₁ B hml hxt hv
  obtain ⟨rfl, hsz, hP, hK, hX⟩ := hv
  have hx := B.exec
  have hb := B.bytes
  have hr := B.returns
  have hts := atoms_spec (ws := wsX6_term) B.pre
  have hown : s.vm.findClass RX6 = some m.cls := findClass_of_methodNamed B.named
  have hlocks := B.notSynchronized
  subst hsz
  have hS : va_S (zA a s.heap.size) s.heap s.heap [] := va_S.rf
  have hF : CallFix p m c cX6_term 4 s _ wsX6_term RX6 := ⟨hx, hb, hml, hown, hts⟩
  have i5 : ∀ w ∈ wsX50, w ∈ wsX6_term := fun _ h => (List.mem_cons_of_mem _ (List.mem_append_left _ (List.mem_append_left _ (List.mem_append_right _ h))))
  have i6 : ∀ w ∈ wsX60, w ∈ wsX6_term := fun _ h => (List.mem_cons_of_mem _ (List.mem_append_left _ (List.mem_append_left _ (List.mem_append_left _ (List.mem_append_right _ h)))))
  have hl := lv_entry ([.ref (a 0), .int y1, .int y2, .int y3]) (n := 4) (Nat.le_of_ble_eq_true rfl)
  rw [lg_entry_eq]
  generalize (lg_sl ([.ref (a 0), .int y1, .int y2, .int y3]) ++ List.replicate (4 - (lg_sl ([.ref (a 0), .int y1, .int y2, .int y3])).length) Slot.unset).toArray = ls at hl ⊢
  have hl : lv_has ls 4 [(0, .ref (a 0)), (1, .int y1), (2, .int y2), (3, .int y3)] := hl
  unfold X6_term at hm
  refine lv_aload_n hx hb dX6_term_0 rfl (lv_at hl 0 rfl) ?_
  refine lv_iload_n hx hb dX6_term_1 rfl (lv_at hl 1 rfl) ?_
  refine z_xVv (As := [.int y1]) (rest := []) hF hlocks hxt hK hX hP hS zO_0 rfl rfl (c_X6_needRow l hlt D k a hj y1 S _ X hm _) (cwV 1 hts gX6_term_X6_needRow rfl rfl rfl (by decide +kernel) ⟨Nat.le_of_ble_eq_true rfl, Nat.le_of_ble_eq_true rfl⟩) rfl hl.1 rfl (Nat.le_of_ble_eq_true rfl) dX6_term_2 ⟨Nat.le_of_ble_eq_true rfl, Nat.le_of_ble_eq_true rfl⟩ (Nat.le_of_ble_eq_true rfl) (Nat.le_of_ble_eq_true rfl) (fun S_2 H locs hm hP hS => ?_)
  refine lv_aload_n hx hb dX6_term_5 rfl (lv_at hl 0 rfl) ?_
  refine lv_iload_n hx hb dX6_term_6 rfl (lv_at hl 2 rfl) ?_
  refine z_xVv (As := [.int y2]) (rest := []) hF hlocks hxt hK hX hP hS zO_0 rfl rfl (c_X6_needColumn l hlt D k a hj y2 S_2 _ X hm _) (cwV 1 hts gX6_term_X6_needColumn rfl rfl rfl (by decide +kernel) ⟨Nat.le_of_ble_eq_true rfl, Nat.le_of_ble_eq_true rfl⟩) rfl hl.1 rfl (Nat.le_of_ble_eq_true rfl) dX6_term_7 ⟨Nat.le_of_ble_eq_true rfl, Nat.le_of_ble_eq_true rfl⟩ (Nat.le_of_ble_eq_true rfl) (Nat.le_of_ble_eq_true rfl) (fun S_7 H locs hm hP hS => ?_)
  refine lv_iload_n hx hb dX6_term_10 rfl (lv_at hl 3 rfl) ?_
  refine lv_bipush (v := (100 : Int32)) hx hb dX6_term_11 (by decide) ?_
  refine z_cSi (As := [.int y3, .int (100 : Int32)]) (rest := []) hF hK hP hS (c_X6_isWithin l D k a hj y3 (100 : Int32) S_7 _ hm _) (va_cwS 2 hts gX6_term_X6_isWithin rfl rfl rfl (by decide +kernel) ⟨Nat.le_of_ble_eq_true rfl, Nat.le_of_ble_eq_true rfl⟩) rfl hl.1 rfl (Nat.le_of_ble_eq_true rfl) dX6_term_13 ⟨Nat.le_of_ble_eq_true rfl, Nat.le_of_ble_eq_true rfl⟩ (fun r_13 S_13 H locs hm hP hS => ?_)
  refine lv_if_ne (tgt := 29) hx hb dX6_term_16 (by decide) (fun c_16 => ?_) (fun c_16 => ?_)
  · have hm := hm.2 c_16
    refine lv_aload_n hx hb dX6_term_29 rfl (lv_at hl 0 rfl) ?_
    refine lv_iconst (v := (0 : Int32)) hx hb dX6_term_30 (by decide) ?_
    refine zp_6_solved hx hb hts i6 hown hj hK hP hS (hts _ (List.mem_of_getElem? (i := 3) rfl)) dX6_term_31 (fun H locs hP hS => ?_)
    obtain ⟨S_31, eS_31⟩ : ∃ z : ZS, z = zu S_13 0 7 (0 : Int32) := ⟨_, rfl⟩
    rw [← eS_31] at hP
    have hm := hm S_31 eS_31
    refine lv_aload_n hx hb dX6_term_34 rfl (lv_at hl 0 rfl) ?_
    refine zg_6_whole hx hb hts i6 hown hK hP (hts _ (List.mem_of_getElem? (i := 4) rfl)) dX6_term_35 ?_
    refine zg_5_a hx hb hts i5 hown hK hP (hts _ (List.mem_of_getElem? (i := 5) rfl)) dX6_term_38 ?_
    refine lv_iload_n hx hb dX6_term_41 rfl (lv_at hl 1 rfl) ?_
    obtain ⟨h_42, hm⟩ := hm
    refine z_aald hx hb hK hP zQ_13 h_42 dX6_term_42 ?_
    refine lv_iload_n hx hb dX6_term_43 rfl (lv_at hl 2 rfl) ?_
    refine lv_iload_n hx hb dX6_term_44 rfl (lv_at hl 3 rfl) ?_
    obtain ⟨h_45, hm⟩ := hm
    refine z_iast hx hb hj hK hP hS (zRi_13 h_42) h_45 dX6_term_45 (fun H locs hP hS => ?_)
    obtain ⟨S_45, eS_45⟩ : ∃ z : ZS, z = zu S_31 (14 + (y1).toNatClampNeg) (y2).toNatClampNeg y3 := ⟨_, rfl⟩
    rw [← eS_45] at hP
    have hm := hm S_45 eS_45
    exact z_retvX hx hb hr hlocks hP hS (Nat.le_of_ble_eq_true rfl) (Nat.le_of_ble_eq_true rfl) hm dX6_term_46
  · have hm := hm.1 c_16
    exact z_throw (text := "the coefficient is not -100 .. 100") hx hb hlt hlocks hxt hown hts (List.mem_of_getElem? (i := 1) rfl) (List.mem_of_getElem? (i := 2) rfl) (fun _ h => (List.mem_cons_of_mem _ (List.mem_append_left _ (List.mem_append_right _ h)))) zbw_80 (by decide +kernel) (by decide +kernel) zfit (by decide +kernel) hX hP hS (hl.1.trans hml.symm) dX6_term_19 dX6_term_22 dX6_term_23 dX6_term_25 dX6_term_28 (Nat.le_of_ble_eq_true rfl) (Nat.le_of_ble_eq_true rfl) (Nat.le_of_ble_eq_true rfl) (Nat.le_of_ble_eq_true rfl) (Nat.le_of_ble_eq_true rfl) (Nat.le_of_ble_eq_true rfl) hm

abbrev rm_X6_bounds : Room := { frames := 7, cells := 2, slots := 12, locals := 111 }
def X6_bounds (y1 : Int32) (y2 : Int32) (y3 : Int32) (S : ZS) (Q : ZS → Prop) (X : String → ZS → Prop) : Prop :=
  X6_needColumn y1 S (fun S_2 => X6_areBounds y2 y3 S_2 (fun r_7 S_7 => (r_7 = 0 → X "java/lang/IllegalArgumentException" S_7) ∧ (¬ r_7 = 0 → ∀ S_25 : ZS, S_25 = zu S_7 0 7 (0 : Int32) → vp_in y1 10 ∧ ∀ S_37 : ZS, S_37 = zu S_25 8 (y1).toNatClampNeg y2 → vp_in y1 10 ∧ ∀ S_47 : ZS, S_47 = zu S_37 9 (y1).toNatClampNeg y3 → Q S_47))) X
set_option maxHeartbeats 4000000 in
set_option maxRecDepth 100000 in
theorem c_X6_bounds (l : Launch) (hlt : l.stackTraces = false) (D : va_G) (k : Nat → ClassId) (a : Nat → Nat) (hj : zDj a) (y1 : Int32) (y2 : Int32) (y3 : Int32) (S : ZS) (Q : ZS → Prop) (X : String → ZS → Prop) (hm : X6_bounds y1 y2 y3 S Q X) (sz : Nat) : vx_Met l yX6_bounds wsX6_bounds rm_X6_bounds (zPcX D k a [.ref (a 0), .int y1, .int y2, .int y3] S sz) (va_Qv Q (zB D k a) (zA a sz)) (zXC D k a X sz) 2 12 (zA a sz) := by
  refine vx_ofW (cc := cX6_bounds) (maxL := 4) (ret := none) (by decide) rfl ?_
  intro p e s m args below meth c s₁ B hml hxt hv
  obtain ⟨rfl, hsz, hP, hK, hX⟩ := hv
  have hx := B.exec
  have hb := B.bytes
  have hr := B.returns
  have hts := atoms_spec (ws := wsX6_bounds) B.pre
  have hown : s.vm.findClass RX6 = some m.cls := findClass_of_methodNamed B.named
  have hlocks := B.notSynchronized
  subst hsz
  have hS : va_S (zA a s.heap.size) s.heap s.heap [] := va_S.rf
  have hF : CallFix p m c cX6_bounds 4 s _ wsX6_bounds RX6 := ⟨hx, hb, hml, hown, hts⟩
  have i5 : ∀ w ∈ wsX50, w ∈ wsX6_bounds := fun _ h => (List.mem_cons_of_mem _ (List.mem_append_left _ (List.mem_append_left _ (List.mem_append_right _ h))))
  have i6 : ∀ w ∈ wsX60, w ∈ wsX6_bounds := fun _ h => (List.mem_cons_of_mem _ (List.mem_append_left _ (List.mem_append_left _ (List.mem_append_left _ (List.mem_append_right _ h)))))
  have hl := lv_entry ([.ref (a 0), .int y1, .int y2, .int y3]) (n := 4) (Nat.le_of_ble_eq_true rfl)
  rw [lg_entry_eq]
  generalize (lg_sl ([.ref (a 0), .int y1, .int y2, .int y3]) ++ List.replicate (4 - (lg_sl ([.ref (a 0), .int y1, .int y2, .int y3])).length) Slot.unset).toArray = ls at hl ⊢
  have hl : lv_has ls 4 [(0, .ref (a 0)), (1, .int y1), (2, .int y2), (3, .int y3)] := hl
  unfold X6_bounds at hm
  refine lv_aload_n hx hb dX6_bounds_0 rfl (lv_at hl 0 rfl) ?_
  refine lv_iload_n hx hb dX6_bounds_1 rfl (lv_at hl 1 rfl) ?_
  refine z_xVv (As := [.int y1]) (rest := []) hF hlocks hxt hK hX hP hS zO_0 rfl rfl (c_X6_needColumn l hlt D k a hj y1 S _ X hm _) (cwV 1 hts gX6_bounds_X6_needColumn rfl rfl rfl (by decide +kernel) ⟨Nat.le_of_ble_eq_true rfl, Nat.le_of_ble_eq_true rfl⟩) rfl hl.1 rfl (Nat.le_of_ble_eq_true rfl) dX6_bounds_2 ⟨Nat.le_of_ble_eq_true rfl, Nat.le_of_ble_eq_true rfl⟩ (Nat.le_of_ble_eq_true rfl) (Nat.le_of_ble_eq_true rfl) (fun S_2 H locs hm hP hS => ?_)
  refine lv_iload_n hx hb dX6_bounds_5 rfl (lv_at hl 2 rfl) ?_
  refine lv_iload_n hx hb dX6_bounds_6 rfl (lv_at hl 3 rfl) ?_
  refine z_cSi (As := [.int y2, .int y3]) (rest := []) hF hK hP hS (c_X6_areBounds l D k a hj y2 y3 S_2 _ hm _) (va_cwS 2 hts gX6_bounds_X6_areBounds rfl rfl rfl (by decide +kernel) ⟨Nat.le_of_ble_eq_true rfl, Nat.le_of_ble_eq_true rfl⟩) rfl hl.1 rfl (Nat.le_of_ble_eq_true rfl) dX6_bounds_7 ⟨Nat.le_of_ble_eq_true rfl, Nat.le_of_ble_eq_true rfl⟩ (fun r_7 S_7 H locs hm hP hS => ?_)
  refine lv_if_ne (tgt := 23) hx hb dX6_bounds_10 (by decide) (fun c_10 => ?_) (fun c_10 => ?_)
  · have hm := hm.2 c_10
    refine lv_aload_n hx hb dX6_bounds_23 rfl (lv_at hl 0 rfl) ?_
    refine lv_iconst (v := (0 : Int32)) hx hb dX6_bounds_24 (by decide) ?_
    refine zp_6_solved hx hb hts i6 hown hj hK hP hS (hts _ (List.mem_of_getElem? (i := 3) rfl)) dX6_bounds_25 (fun H locs hP hS => ?_)
    obtain ⟨S_25, eS_25⟩ : ∃ z : ZS, z = zu S_7 0 7 (0 : Int32) := ⟨_, rfl⟩
    rw [← eS_25] at hP
    have hm := hm S_25 eS_25
    refine lv_aload_n hx hb dX6_bounds_28 rfl (lv_at hl 0 rfl) ?_
    refine zg_6_whole hx hb hts i6 hown hK hP (hts _ (List.mem_of_getElem? (i := 4) rfl)) dX6_bounds_29 ?_
    refine zg_5_low hx hb hts i5 hown hK hP (hts _ (List.mem_of_getElem? (i := 5) rfl)) dX6_bounds_32 ?_
    refine lv_iload_n hx hb dX6_bounds_35 rfl (lv_at hl 1 rfl) ?_
    refine lv_iload_n hx hb dX6_bounds_36 rfl (lv_at hl 2 rfl) ?_
    obtain ⟨h_37, hm⟩ := hm
    refine z_iast hx hb hj hK hP hS zI_8 h_37 dX6_bounds_37 (fun H locs hP hS => ?_)
    obtain ⟨S_37, eS_37⟩ : ∃ z : ZS, z = zu S_25 8 (y1).toNatClampNeg y2 := ⟨_, rfl⟩
    rw [← eS_37] at hP
    have hm := hm S_37 eS_37
    refine lv_aload_n hx hb dX6_bounds_38 rfl (lv_at hl 0 rfl) ?_
    refine zg_6_whole hx hb hts i6 hown hK hP (hts _ (List.mem_of_getElem? (i := 4) rfl)) dX6_bounds_39 ?_
    refine zg_5_high hx hb hts i5 hown hK hP (hts _ (List.mem_of_getElem? (i := 6) rfl)) dX6_bounds_42 ?_
    refine lv_iload_n hx hb dX6_bounds_45 rfl (lv_at hl 1 rfl) ?_
    refine lv_iload_n hx hb dX6_bounds_46 rfl (lv_at hl 3 rfl) ?_
    obtain ⟨h_47, hm⟩ := hm
    refine z_iast hx hb hj hK hP hS zI_9 h_47 dX6_bounds_47 (fun H locs hP hS => ?_)
    obtain ⟨S_47, eS_47⟩ : ∃ z : ZS, z = zu S_37 9 (y1).toNatClampNeg y3 := ⟨_, rfl⟩
    rw [← eS_47] at hP
    have hm := hm S_47 eS_47
    exact z_retvX hx hb hr hlocks hP hS (Nat.le_of_ble_eq_true rfl) (Nat.le_of_ble_eq_true rfl) hm dX6_bounds_48
  · have hm := hm.1 c_10
    exact z_throw (text := "the bounds are not as told") hx hb hlt hlocks hxt hown hts (List.mem_of_getElem? (i := 1) rfl) (List.mem_of_getElem? (i := 2) rfl) (fun _ h => (List.mem_cons_of_mem _ (List.mem_append_left _ (List.mem_append_right _ h)))) zbw_80 (by decide +kernel) (by decide +kernel) zfit (by decide +kernel) hX hP hS (hl.1.trans hml.symm) dX6_bounds_13 dX6_bounds_16 dX6_bounds_17 dX6_bounds_19 dX6_bounds_22 (Nat.le_of_ble_eq_true rfl) (Nat.le_of_ble_eq_true rfl) (Nat.le_of_ble_eq_true rfl) (Nat.le_of_ble_eq_true rfl) (Nat.le_of_ble_eq_true rfl) (Nat.le_of_ble_eq_true rfl) hm

abbrev rm_X6_cost : Room := { frames := 7, cells := 2, slots := 12, locals := 111 }
def X6_cost (y1 : Int32) (y2 : Int32) (S : ZS) (Q : Int32 → ZS → Prop) (X : String → ZS → Prop) : Prop :=
  X6_needColumn y1 S (fun S_2 => X6_isWithin y2 (1000 : Int32) S_2 (fun r_9 S_9 => (r_9 = 0 → X "java/lang/IllegalArgumentException" S_9) ∧ (¬ r_9 = 0 → ∀ S_27 : ZS, S_27 = zu S_9 0 7 (0 : Int32) → vp_in y1 10 ∧ ∀ x3_39 : Int32, x3_39 = (S_27.1 10 (y1).toNatClampNeg) → vp_in y1 10 ∧ ∀ S_49 : ZS, S_49 = zu S_27 10 (y1).toNatClampNeg y2 → Q x3_39 S_49))) X
set_option maxHeartbeats 4000000 in
set_option maxRecDepth 100000 in
theorem c_X6_cost (l : Launch) (hlt : l.stackTraces = false) (D : va_G) (k : Nat → ClassId) (a : Nat → Nat) (hj : zDj a) (y1 : Int32) (y2 : Int32) (S : ZS) (Q : Int32 → ZS → Prop) (X : String → ZS → Prop) (hm : X6_cost y1 y2 S Q X) (sz : Nat) : vx_Met l yX6_cost wsX6_cost rm_X6_cost (zPcX D k a [.ref (a 0), .int y1, .int y2] S sz) (va_Qi Q (zB D k a) (zA a sz)) (zXC D k a X sz) 2 12 (zA a sz) := by
  refine vx_ofW (cc := cX6_cost) (maxL := 4) (ret := (some .int)) (by decide) rfl ?_
  intro p e s m args below meth c s₁ B hml hxt hv
  obtain ⟨rfl, hsz, hP, hK, hX⟩ := hv
  have hx := B.exec
  have hb := B.bytes
  have hr := B.returns
  have hts := atoms_spec (ws := wsX6_cost) B.pre
  have hown : s.vm.findClass RX6 = some m.cls := findClass_of_methodNamed B.named
  have hlocks := B.notSynchronized
  subst hsz
  have hS : va_S (zA a s.heap.size) s.heap s.heap [] := va_S.rf
  have hF : CallFix p m c cX6_cost 4 s _ wsX6_cost RX6 := ⟨hx, hb, hml, hown, hts⟩
  have i5 : ∀ w ∈ wsX50, w ∈ wsX6_cost := fun _ h => (List.mem_cons_of_mem _ (List.mem_append_left _ (List.mem_append_left _ (List.mem_append_right _ h))))
  have i6 : ∀ w ∈ wsX60, w ∈ wsX6_cost := fun _ h => (List.mem_cons_of_mem _ (List.mem_append_left _ (List.mem_append_left _ (List.mem_append_left _ (List.mem_append_right _ h)))))
  have hl := lv_entry ([.ref (a 0), .int y1, .int y2]) (n := 4) (Nat.le_of_ble_eq_true rfl)
  rw [lg_entry_eq]
  generalize (lg_sl ([.ref (a 0), .int y1, .int y2]) ++ List.replicate (4 - (lg_sl ([.ref (a 0), .int y1, .int y2])).length) Slot.unset).toArray = ls at hl ⊢
  have hl : lv_has ls 4 [(0, .ref (a 0)), (1, .int y1), (2, .int y2)] := hl
  unfold X6_cost at hm
  refine lv_aload_n hx hb dX6_cost_0 rfl (lv_at hl 0 rfl) ?_
  refine lv_iload_n hx hb dX6_cost_1 rfl (lv_at hl 1 rfl) ?_
  refine z_xVv (As := [.int y1]) (rest := []) hF hlocks hxt hK hX hP hS zO_0 rfl rfl (c_X6_needColumn l hlt D k a hj y1 S _ X hm _) (cwV 1 hts gX6_cost_X6_needColumn rfl rfl rfl (by decide +kernel) ⟨Nat.le_of_ble_eq_true rfl, Nat.le_of_ble_eq_true rfl⟩) rfl hl.1 rfl (Nat.le_of_ble_eq_true rfl) dX6_cost_2 ⟨Nat.le_of_ble_eq_true rfl, Nat.le_of_ble_eq_true rfl⟩ (Nat.le_of_ble_eq_true rfl) (Nat.le_of_ble_eq_true rfl) (fun S_2 H locs hm hP hS => ?_)
  refine lv_iload_n hx hb dX6_cost_5 rfl (lv_at hl 2 rfl) ?_
  refine lv_sipush (v := (1000 : Int32)) hx hb dX6_cost_6 (by decide) ?_
  refine z_cSi (As := [.int y2, .int (1000 : Int32)]) (rest := []) hF hK hP hS (c_X6_isWithin l D k a hj y2 (1000 : Int32) S_2 _ hm _) (va_cwS 2 hts gX6_cost_X6_isWithin rfl rfl rfl (by decide +kernel) ⟨Nat.le_of_ble_eq_true rfl, Nat.le_of_ble_eq_true rfl⟩) rfl hl.1 rfl (Nat.le_of_ble_eq_true rfl) dX6_cost_9 ⟨Nat.le_of_ble_eq_true rfl, Nat.le_of_ble_eq_true rfl⟩ (fun r_9 S_9 H locs hm hP hS => ?_)
  refine lv_if_ne (tgt := 25) hx hb dX6_cost_12 (by decide) (fun c_12 => ?_) (fun c_12 => ?_)
  · have hm := hm.2 c_12
    refine lv_aload_n hx hb dX6_cost_25 rfl (lv_at hl 0 rfl) ?_
    refine lv_iconst (v := (0 : Int32)) hx hb dX6_cost_26 (by decide) ?_
    refine zp_6_solved hx hb hts i6 hown hj hK hP hS (hts _ (List.mem_of_getElem? (i := 3) rfl)) dX6_cost_27 (fun H locs hP hS => ?_)
    obtain ⟨S_27, eS_27⟩ : ∃ z : ZS, z = zu S_9 0 7 (0 : Int32) := ⟨_, rfl⟩
    rw [← eS_27] at hP
    have hm := hm S_27 eS_27
    refine lv_aload_n hx hb dX6_cost_30 rfl (lv_at hl 0 rfl) ?_
    refine zg_6_whole hx hb hts i6 hown hK hP (hts _ (List.mem_of_getElem? (i := 4) rfl)) dX6_cost_31 ?_
    refine zg_5_cost hx hb hts i5 hown hK hP (hts _ (List.mem_of_getElem? (i := 5) rfl)) dX6_cost_34 ?_
    refine lv_iload_n hx hb dX6_cost_37 rfl (lv_at hl 1 rfl) ?_
    obtain ⟨h_38, hm⟩ := hm
    refine z_iald hx hb hK hP zI_10 h_38 dX6_cost_38 ?_
    refine lv_topi (fun x3_39 ex3_39 => ?_)
    have hm := hm x3_39 ex3_39
    refine lv_istore_n (lv' := [(3, .int x3_39), (0, .ref (a 0)), (1, .int y1), (2, .int y2)]) hx hb dX6_cost_39 rfl hl (by decide) rfl (fun ls hl => ?_)
    refine lv_aload_n hx hb dX6_cost_40 rfl (lv_at hl 1 rfl) ?_
    refine zg_6_whole hx hb hts i6 hown hK hP (hts _ (List.mem_of_getElem? (i := 4) rfl)) dX6_cost_41 ?_
    refine zg_5_cost hx hb hts i5 hown hK hP (hts _ (List.mem_of_getElem? (i := 5) rfl)) dX6_cost_44 ?_
    refine lv_iload_n hx hb dX6_cost_47 rfl (lv_at hl 2 rfl) ?_
    refine lv_iload_n hx hb dX6_cost_48 rfl (lv_at hl 3 rfl) ?_
    obtain ⟨h_49, hm⟩ := hm
    refine z_iast hx hb hj hK hP hS zI_10 h_49 dX6_cost_49 (fun H locs hP hS => ?_)
    obtain ⟨S_49, eS_49⟩ : ∃ z : ZS, z = zu S_27 10 (y1).toNatClampNeg y2 := ⟨_, rfl⟩
    rw [← eS_49] at hP
    have hm := hm S_49 eS_49
    refine lv_iload_n hx hb dX6_cost_50 rfl (lv_at hl 0 rfl) ?_
    exact z_retiX hx hb hr hlocks hP hS (Nat.le_of_ble_eq_true rfl) (Nat.le_of_ble_eq_true rfl) hm dX6_cost_51
  · have hm := hm.1 c_12
    exact z_throw (text := "the cost is not -1000 .. 1000") hx hb hlt hlocks hxt hown hts (List.mem_of_getElem? (i := 1) rfl) (List.mem_of_getElem? (i := 2) rfl) (fun _ h => (List.mem_cons_of_mem _ (List.mem_append_left _ (List.mem_append_right _ h)))) zbw_80 (by decide +kernel) (by decide +kernel) zfit (by decide +kernel) hX hP hS (hl.1.trans hml.symm) dX6_cost_15 dX6_cost_18 dX6_cost_19 dX6_cost_21 dX6_cost_24 (Nat.le_of_ble_eq_true rfl) (Nat.le_of_ble_eq_true rfl) (Nat.le_of_ble_eq_true rfl) (Nat.le_of_ble_eq_true rfl) (Nat.le_of_ble_eq_true rfl) (Nat.le_of_ble_eq_true rfl) hm

abbrev rm_X6_right : Room := { frames := 7, cells := 2, slots := 12, locals := 111 }
def X6_right (y1 : Int32) (y2 : Int32) (S : ZS) (Q : Int32 → ZS → Prop) (X : String → ZS → Prop) : Prop :=
  X6_needRow y1 S (fun S_2 => X6_isWithin y2 (100000 : Int32) S_2 (fun r_8 S_8 => (r_8 = 0 → X "java/lang/IllegalArgumentException" S_8) ∧ (¬ r_8 = 0 → ∀ S_26 : ZS, S_26 = zu S_8 0 7 (0 : Int32) → vp_in y1 8 ∧ ∀ x3_38 : Int32, x3_38 = (S_26.1 12 (y1).toNatClampNeg) → vp_in y1 8 ∧ ∀ S_48 : ZS, S_48 = zu S_26 12 (y1).toNatClampNeg y2 → Q x3_38 S_48))) X
set_option maxHeartbeats 4000000 in
set_option maxRecDepth 100000 in
theorem c_X6_right (l : Launch) (hlt : l.stackTraces = false) (D : va_G) (k : Nat → ClassId) (a : Nat → Nat) (hj : zDj a) (y1 : Int32) (y2 : Int32) (S : ZS) (Q : Int32 → ZS → Prop) (X : String → ZS → Prop) (hm : X6_right y1 y2 S Q X) (sz : Nat) : vx_Met l yX6_right wsX6_right rm_X6_right (zPcX D k a [.ref (a 0), .int y1, .int y2] S sz) (va_Qi Q (zB D k a) (zA a sz)) (zXC D k a X sz) 2 12 (zA a sz) := by
  refine vx_ofW (cc := cX6_right) (maxL := 4) (ret := (some .int)) (by decide) rfl ?_
  intro p e s m args below meth c s₁ B hml hxt hv
  obtain ⟨rfl, hsz, hP, hK, hX⟩ := hv
  have hx := B.exec
  have hb := B.bytes
  have hr := B.returns
  have hts := atoms_spec (ws := wsX6_right) B.pre
  have hown : s.vm.findClass RX6 = some m.cls := findClass_of_methodNamed B.named
  have hlocks := B.notSynchronized
  subst hsz
  have hS : va_S (zA a s.heap.size) s.heap s.heap [] := va_S.rf
  have hF : CallFix p m c cX6_right 4 s _ wsX6_right RX6 := ⟨hx, hb, hml, hown, hts⟩
  have i5 : ∀ w ∈ wsX50, w ∈ wsX6_right := fun _ h => (List.mem_cons_of_mem _ (List.mem_append_left _ (List.mem_append_left _ (List.mem_append_right _ h))))
  have i6 : ∀ w ∈ wsX60, w ∈ wsX6_right := fun _ h => (List.mem_cons_of_mem _ (List.mem_append_left _ (List.mem_append_left _ (List.mem_append_left _ (List.mem_append_right _ h)))))
  have hl := lv_entry ([.ref (a 0), .int y1, .int y2]) (n := 4) (Nat.le_of_ble_eq_true rfl)
  rw [lg_entry_eq]
  generalize (lg_sl ([.ref (a 0), .int y1, .int y2]) ++ List.replicate (4 - (lg_sl ([.ref (a 0), .int y1, .int y2])).length) Slot.unset).toArray = ls at hl ⊢
  have hl : lv_has ls 4 [(0, .ref (a 0)), (1, .int y1), (2, .int y2)] := hl
  unfold X6_right at hm
  refine lv_aload_n hx hb dX6_right_0 rfl (lv_at hl 0 rfl) ?_
  refine lv_iload_n hx hb dX6_right_1 rfl (lv_at hl 1 rfl) ?_
  refine z_xVv (As := [.int y1]) (rest := []) hF hlocks hxt hK hX hP hS zO_0 rfl rfl (c_X6_needRow l hlt D k a hj y1 S _ X hm _) (cwV 1 hts gX6_right_X6_needRow rfl rfl rfl (by decide +kernel) ⟨Nat.le_of_ble_eq_true rfl, Nat.le_of_ble_eq_true rfl⟩) rfl hl.1 rfl (Nat.le_of_ble_eq_true rfl) dX6_right_2 ⟨Nat.le_of_ble_eq_true rfl, Nat.le_of_ble_eq_true rfl⟩ (Nat.le_of_ble_eq_true rfl) (Nat.le_of_ble_eq_true rfl) (fun S_2 H locs hm hP hS => ?_)
  refine lv_iload_n hx hb dX6_right_5 rfl (lv_at hl 2 rfl) ?_
  refine lv_ldc (v := (100000 : Int32)) hx hb hown (hts _ (List.mem_of_getElem? (i := 3) rfl)) dX6_right_6 ?_
  refine z_cSi (As := [.int y2, .int (100000 : Int32)]) (rest := []) hF hK hP hS (c_X6_isWithin l D k a hj y2 (100000 : Int32) S_2 _ hm _) (va_cwS 2 hts gX6_right_X6_isWithin rfl rfl rfl (by decide +kernel) ⟨Nat.le_of_ble_eq_true rfl, Nat.le_of_ble_eq_true rfl⟩) rfl hl.1 rfl (Nat.le_of_ble_eq_true rfl) dX6_right_8 ⟨Nat.le_of_ble_eq_true rfl, Nat.le_of_ble_eq_true rfl⟩ (fun r_8 S_8 H locs hm hP hS => ?_)
  refine lv_if_ne (tgt := 24) hx hb dX6_right_11 (by decide) (fun c_11 => ?_) (fun c_11 => ?_)
  · have hm := hm.2 c_11
    refine lv_aload_n hx hb dX6_right_24 rfl (lv_at hl 0 rfl) ?_
    refine lv_iconst (v := (0 : Int32)) hx hb dX6_right_25 (by decide) ?_
    refine zp_6_solved hx hb hts i6 hown hj hK hP hS (hts _ (List.mem_of_getElem? (i := 4) rfl)) dX6_right_26 (fun H locs hP hS => ?_)
    obtain ⟨S_26, eS_26⟩ : ∃ z : ZS, z = zu S_8 0 7 (0 : Int32) := ⟨_, rfl⟩
    rw [← eS_26] at hP
    have hm := hm S_26 eS_26
    refine lv_aload_n hx hb dX6_right_29 rfl (lv_at hl 0 rfl) ?_
    refine zg_6_whole hx hb hts i6 hown hK hP (hts _ (List.mem_of_getElem? (i := 5) rfl)) dX6_right_30 ?_
    refine zg_5_right hx hb hts i5 hown hK hP (hts _ (List.mem_of_getElem? (i := 6) rfl)) dX6_right_33 ?_
    refine lv_iload_n hx hb dX6_right_36 rfl (lv_at hl 1 rfl) ?_
    obtain ⟨h_37, hm⟩ := hm
    refine z_iald hx hb hK hP zI_12 h_37 dX6_right_37 ?_
    refine lv_topi (fun x3_38 ex3_38 => ?_)
    have hm := hm x3_38 ex3_38
    refine lv_istore_n (lv' := [(3, .int x3_38), (0, .ref (a 0)), (1, .int y1), (2, .int y2)]) hx hb dX6_right_38 rfl hl (by decide) rfl (fun ls hl => ?_)
    refine lv_aload_n hx hb dX6_right_39 rfl (lv_at hl 1 rfl) ?_
    refine zg_6_whole hx hb hts i6 hown hK hP (hts _ (List.mem_of_getElem? (i := 5) rfl)) dX6_right_40 ?_
    refine zg_5_right hx hb hts i5 hown hK hP (hts _ (List.mem_of_getElem? (i := 6) rfl)) dX6_right_43 ?_
    refine lv_iload_n hx hb dX6_right_46 rfl (lv_at hl 2 rfl) ?_
    refine lv_iload_n hx hb dX6_right_47 rfl (lv_at hl 3 rfl) ?_
    obtain ⟨h_48, hm⟩ := hm
    refine z_iast hx hb hj hK hP hS zI_12 h_48 dX6_right_48 (fun H locs hP hS => ?_)
    obtain ⟨S_48, eS_48⟩ : ∃ z : ZS, z = zu S_26 12 (y1).toNatClampNeg y2 := ⟨_, rfl⟩
    rw [← eS_48] at hP
    have hm := hm S_48 eS_48
    refine lv_iload_n hx hb dX6_right_49 rfl (lv_at hl 0 rfl) ?_
    exact z_retiX hx hb hr hlocks hP hS (Nat.le_of_ble_eq_true rfl) (Nat.le_of_ble_eq_true rfl) hm dX6_right_50
  · have hm := hm.1 c_11
    exact z_throw (text := "the right side is not -100000 .. 100000") hx hb hlt hlocks hxt hown hts (List.mem_of_getElem? (i := 1) rfl) (List.mem_of_getElem? (i := 2) rfl) (fun _ h => (List.mem_cons_of_mem _ (List.mem_append_left _ (List.mem_append_right _ h)))) zbw_80 (by decide +kernel) (by decide +kernel) zfit (by decide +kernel) hX hP hS (hl.1.trans hml.symm) dX6_right_14 dX6_right_17 dX6_right_18 dX6_right_20 dX6_right_23 (Nat.le_of_ble_eq_true rfl) (Nat.le_of_ble_eq_true rfl) (Nat.le_of_ble_eq_true rfl) (Nat.le_of_ble_eq_true rfl) (Nat.le_of_ble_eq_true rfl) (Nat.le_of_ble_eq_true rfl) hm

abbrev rm_X6_part : Room := { frames := 7, cells := 1, slots := 6, locals := 111 }
def X6_part (y1 : Int32) (S : ZS) (Q : Int32 → ZS → Prop) (X : String → ZS → Prop) : Prop :=
  X6_needRow y1 S (fun S_2 => X4_findParts S_2 (fun r_9 S_9 => vp_in y1 8 ∧ Q (S_9.1 22 (y1).toNatClampNeg) S_9)) X
set_option maxHeartbeats 4000000 in
set_option maxRecDepth 100000 in
theorem c_X6_part (l : Launch) (hlt : l.stackTraces = false) (D : va_G) (k : Nat → ClassId) (a : Nat → Nat) (hj : zDj a) (y1 : Int32) (S : ZS) (Q : Int32 → ZS → Prop) (X : String → ZS → Prop) (hm : X6_part y1 S Q X) (sz : Nat) : vx_Met l yX6_part wsX6_part rm_X6_part (zPcX D k a [.ref (a 0), .int y1] S sz) (va_Qi Q (zB D k a) (zA a sz)) (zXC D k a X sz) 1 6 (zA a sz) := by
  refine vx_ofW (cc := cX6_part) (maxL := 2) (ret := (some .int)) (by decide) rfl ?_
  intro p e s m args below meth c s₁ B hml hxt hv
  obtain ⟨rfl, hsz, hP, hK, hX⟩ := hv
  have hx := B.exec
  have hb := B.bytes
  have hr := B.returns
  have hts := atoms_spec (ws := wsX6_part) B.pre
  have hown : s.vm.findClass RX6 = some m.cls := findClass_of_methodNamed B.named
  have hlocks := B.notSynchronized
  subst hsz
  have hS : va_S (zA a s.heap.size) s.heap s.heap [] := va_S.rf
  have hF : CallFix p m c cX6_part 2 s _ wsX6_part RX6 := ⟨hx, hb, hml, hown, hts⟩
  have i4 : ∀ w ∈ wsX40, w ∈ wsX6_part := fun _ h => (List.mem_cons_of_mem _ (List.mem_append_left _ (List.mem_append_left _ (List.mem_append_right _ h))))
  have i6 : ∀ w ∈ wsX60, w ∈ wsX6_part := fun _ h => (List.mem_cons_of_mem _ (List.mem_append_left _ (List.mem_append_left _ (List.mem_append_left _ (List.mem_append_right _ h)))))
  have hl := lv_entry ([.ref (a 0), .int y1]) (n := 2) (Nat.le_of_ble_eq_true rfl)
  rw [lg_entry_eq]
  generalize (lg_sl ([.ref (a 0), .int y1]) ++ List.replicate (2 - (lg_sl ([.ref (a 0), .int y1])).length) Slot.unset).toArray = ls at hl ⊢
  have hl : lv_has ls 2 [(0, .ref (a 0)), (1, .int y1)] := hl
  unfold X6_part at hm
  refine lv_aload_n hx hb dX6_part_0 rfl (lv_at hl 0 rfl) ?_
  refine lv_iload_n hx hb dX6_part_1 rfl (lv_at hl 1 rfl) ?_
  refine z_xVv (As := [.int y1]) (rest := []) hF hlocks hxt hK hX hP hS zO_0 rfl rfl (c_X6_needRow l hlt D k a hj y1 S _ X hm _) (cwV 1 hts gX6_part_X6_needRow rfl rfl rfl (by decide +kernel) ⟨Nat.le_of_ble_eq_true rfl, Nat.le_of_ble_eq_true rfl⟩) rfl hl.1 rfl (Nat.le_of_ble_eq_true rfl) dX6_part_2 ⟨Nat.le_of_ble_eq_true rfl, Nat.le_of_ble_eq_true rfl⟩ (Nat.le_of_ble_eq_true rfl) (Nat.le_of_ble_eq_true rfl) (fun S_2 H locs hm hP hS => ?_)
  refine lv_aload_n hx hb dX6_part_5 rfl (lv_at hl 0 rfl) ?_
  refine zg_6_shape hx hb hts i6 hown hK hP (hts _ (List.mem_of_getElem? (i := 1) rfl)) dX6_part_6 ?_
  refine z_cVi (As := []) (rest := []) hF hK hP hS zO_2 rfl rfl (c_X4_findParts l D k a hj  S_2 _ hm _) (cwV 0 hts gX6_part_X4_findParts rfl rfl rfl (by decide +kernel) ⟨Nat.le_of_ble_eq_true rfl, Nat.le_of_ble_eq_true rfl⟩) rfl hl.1 rfl (Nat.le_of_ble_eq_true rfl) dX6_part_9 ⟨Nat.le_of_ble_eq_true rfl, Nat.le_of_ble_eq_true rfl⟩ (fun r_9 S_9 H locs hm hP hS => ?_)
  refine lv_pop hx hb dX6_part_12 rfl ?_
  refine lv_aload_n hx hb dX6_part_13 rfl (lv_at hl 0 rfl) ?_
  refine zg_6_shape hx hb hts i6 hown hK hP (hts _ (List.mem_of_getElem? (i := 1) rfl)) dX6_part_14 ?_
  refine zg_4_leastRow hx hb hts i4 hown hK hP (hts _ (List.mem_of_getElem? (i := 2) rfl)) dX6_part_17 ?_
  refine lv_iload_n hx hb dX6_part_20 rfl (lv_at hl 1 rfl) ?_
  obtain ⟨h_21, hm⟩ := hm
  refine z_iald hx hb hK hP zI_22 h_21 dX6_part_21 ?_
  exact z_retiX hx hb hr hlocks hP hS (Nat.le_of_ble_eq_true rfl) (Nat.le_of_ble_eq_true rfl) hm dX6_part_22

abbrev rm_X6_sign : Room := { frames := 7, cells := 1, slots := 6, locals := 111 }
def X6_sign (y1 : Int32) (S : ZS) (Q : Int32 → ZS → Prop) (X : String → ZS → Prop) : Prop :=
  X4_findSigns S (fun r_4 S_4 => (r_4 = (-1 : Int32) → X6_needRow y1 S_4 (fun S_23 => vp_in y1 8 ∧ Q (S_23.1 23 (y1).toNatClampNeg) S_23) X) ∧ (¬ r_4 = (-1 : Int32) → X "java/lang/IllegalStateException" S_4))
set_option maxHeartbeats 4000000 in
set_option maxRecDepth 100000 in
theorem c_X6_sign (l : Launch) (hlt : l.stackTraces = false) (D : va_G) (k : Nat → ClassId) (a : Nat → Nat) (hj : zDj a) (y1 : Int32) (S : ZS) (Q : Int32 → ZS → Prop) (X : String → ZS → Prop) (hm : X6_sign y1 S Q X) (sz : Nat) : vx_Met l yX6_sign wsX6_sign rm_X6_sign (zPcX D k a [.ref (a 0), .int y1] S sz) (va_Qi Q (zB D k a) (zA a sz)) (zXC D k a X sz) 1 6 (zA a sz) := by
  refine vx_ofW (cc := cX6_sign) (maxL := 2) (ret := (some .int)) (by decide) rfl ?_
  intro p e s m args below meth c s₁ B hml hxt hv
  obtain ⟨rfl, hsz, hP, hK, hX⟩ := hv
  have hx := B.exec
  have hb := B.bytes
  have hr := B.returns
  have hts := atoms_spec (ws := wsX6_sign) B.pre
  have hown : s.vm.findClass RX6 = some m.cls := findClass_of_methodNamed B.named
  have hlocks := B.notSynchronized
  subst hsz
  have hS : va_S (zA a s.heap.size) s.heap s.heap [] := va_S.rf
  have hF : CallFix p m c cX6_sign 2 s _ wsX6_sign RX6 := ⟨hx, hb, hml, hown, hts⟩
  have i4 : ∀ w ∈ wsX40, w ∈ wsX6_sign := fun _ h => (List.mem_cons_of_mem _ (List.mem_append_left _ (List.mem_append_left _ (List.mem_append_left _ (List.mem_append_right _ h)))))
  have i6 : ∀ w ∈ wsX60, w ∈ wsX6_sign := fun _ h => (List.mem_cons_of_mem _ (List.mem_append_left _ (List.mem_append_left _ (List.mem_append_left _ (List.mem_append_left _ (List.mem_append_right _ h))))))
  have hl := lv_entry ([.ref (a 0), .int y1]) (n := 2) (Nat.le_of_ble_eq_true rfl)
  rw [lg_entry_eq]
  generalize (lg_sl ([.ref (a 0), .int y1]) ++ List.replicate (2 - (lg_sl ([.ref (a 0), .int y1])).length) Slot.unset).toArray = ls at hl ⊢
  have hl : lv_has ls 2 [(0, .ref (a 0)), (1, .int y1)] := hl
  unfold X6_sign at hm
  refine lv_aload_n hx hb dX6_sign_0 rfl (lv_at hl 0 rfl) ?_
  refine zg_6_shape hx hb hts i6 hown hK hP (hts _ (List.mem_of_getElem? (i := 3) rfl)) dX6_sign_1 ?_
  refine z_cVi (As := []) (rest := []) hF hK hP hS zO_2 rfl rfl (c_X4_findSigns l D k a hj  S _ hm _) (cwV 0 hts gX6_sign_X4_findSigns rfl rfl rfl (by decide +kernel) ⟨Nat.le_of_ble_eq_true rfl, Nat.le_of_ble_eq_true rfl⟩) rfl hl.1 rfl (Nat.le_of_ble_eq_true rfl) dX6_sign_4 ⟨Nat.le_of_ble_eq_true rfl, Nat.le_of_ble_eq_true rfl⟩ (fun r_4 S_4 H locs hm hP hS => ?_)
  refine lv_iconst (v := (-1 : Int32)) hx hb dX6_sign_7 (by decide) ?_
  refine lv_icmp_eq (tgt := 21) hx hb dX6_sign_8 (by decide) (fun c_8 => ?_) (fun c_8 => ?_)
  · have hm := hm.1 c_8
    refine lv_aload_n hx hb dX6_sign_21 rfl (lv_at hl 0 rfl) ?_
    refine lv_iload_n hx hb dX6_sign_22 rfl (lv_at hl 1 rfl) ?_
    refine z_xVv (As := [.int y1]) (rest := []) hF hlocks hxt hK hX hP hS zO_0 rfl rfl (c_X6_needRow l hlt D k a hj y1 S_4 _ X hm _) (cwV 1 hts gX6_sign_X6_needRow rfl rfl rfl (by decide +kernel) ⟨Nat.le_of_ble_eq_true rfl, Nat.le_of_ble_eq_true rfl⟩) rfl hl.1 rfl (Nat.le_of_ble_eq_true rfl) dX6_sign_23 ⟨Nat.le_of_ble_eq_true rfl, Nat.le_of_ble_eq_true rfl⟩ (Nat.le_of_ble_eq_true rfl) (Nat.le_of_ble_eq_true rfl) (fun S_23 H locs hm hP hS => ?_)
    refine lv_aload_n hx hb dX6_sign_26 rfl (lv_at hl 0 rfl) ?_
    refine zg_6_shape hx hb hts i6 hown hK hP (hts _ (List.mem_of_getElem? (i := 3) rfl)) dX6_sign_27 ?_
    refine zg_4_signs hx hb hts i4 hown hK hP (hts _ (List.mem_of_getElem? (i := 4) rfl)) dX6_sign_30 ?_
    refine lv_iload_n hx hb dX6_sign_33 rfl (lv_at hl 1 rfl) ?_
    obtain ⟨h_34, hm⟩ := hm
    refine z_iald hx hb hK hP zI_23 h_34 dX6_sign_34 ?_
    exact z_retiX hx hb hr hlocks hP hS (Nat.le_of_ble_eq_true rfl) (Nat.le_of_ble_eq_true rfl) hm dX6_sign_35
  · have hm := hm.2 c_8
    exact z_throw (text := "it is no flow") hx hb hlt hlocks hxt hown hts (List.mem_of_getElem? (i := 1) rfl) (List.mem_of_getElem? (i := 2) rfl) (fun _ h => (List.mem_cons_of_mem _ (List.mem_append_left _ (List.mem_append_right _ h)))) zbw_66 (by decide +kernel) (by decide +kernel) zfit (by decide +kernel) hX hP hS (hl.1.trans hml.symm) dX6_sign_11 dX6_sign_14 dX6_sign_15 dX6_sign_17 dX6_sign_20 (Nat.le_of_ble_eq_true rfl) (Nat.le_of_ble_eq_true rfl) (Nat.le_of_ble_eq_true rfl) (Nat.le_of_ble_eq_true rfl) (Nat.le_of_ble_eq_true rfl) (Nat.le_of_ble_eq_true rfl) hm

abbrev rm_X6_needBest : Room := { frames := 6, cells := 1, slots := 6, locals := 90 }
def X6_needBest_b26 (S : ZS) (Q : ZS → Prop) (X : String → ZS → Prop) : Prop :=
  Q S
def X6_needBest (S : ZS) (Q : ZS → Prop) (X : String → ZS → Prop) : Prop :=
  ((S.1 0 7) = (1 : Int32) → X6_needBest_b26 S Q X) ∧ (¬ (S.1 0 7) = (1 : Int32) → ((S.1 0 7) = (2 : Int32) → X6_needBest_b26 S Q X) ∧ (¬ (S.1 0 7) = (2 : Int32) → X "java/lang/IllegalStateException" S))
set_option maxHeartbeats 4000000 in
set_option maxRecDepth 100000 in
theorem c_X6_needBest (l : Launch) (hlt : l.stackTraces = false) (D : va_G) (k : Nat → ClassId) (a : Nat → Nat) (hj : zDj a) (S : ZS) (Q : ZS → Prop) (X : String → ZS → Prop) (hm : X6_needBest S Q X) (sz : Nat) : vx_Met l yX6_needBest wsX6_needBest rm_X6_needBest (zPcX D k a [.ref (a 0)] S sz) (va_Qv Q (zB D k a) (zA a sz)) (zXC D k a X sz) 1 6 (zA a sz) := by
  refine vx_ofW (cc := cX6_needBest) (maxL := 1) (ret := none) (by decide) rfl ?_
  intro p e s m args below meth c s₁ B hml hxt hv
  obtain ⟨rfl, hsz, hP, hK, hX⟩ := hv
  have hx := B.exec
  have hb := B.bytes
  have hr := B.returns
  have hts := atoms_spec (ws := wsX6_needBest) B.pre
  have hown : s.vm.findClass RX6 = some m.cls := findClass_of_methodNamed B.named
  have hlocks := B.notSynchronized
  subst hsz
  have hS : va_S (zA a s.heap.size) s.heap s.heap [] := va_S.rf
  have hF : CallFix p m c cX6_needBest 1 s _ wsX6_needBest RX6 := ⟨hx, hb, hml, hown, hts⟩
  have i6 : ∀ w ∈ wsX60, w ∈ wsX6_needBest := fun _ h => (List.mem_cons_of_mem _ (List.mem_append_left _ (List.mem_append_right _ h)))
  have hl := lv_entry ([.ref (a 0)]) (n := 1) (Nat.le_of_ble_eq_true rfl)
  rw [lg_entry_eq]
  generalize (lg_sl ([.ref (a 0)]) ++ List.replicate (1 - (lg_sl ([.ref (a 0)])).length) Slot.unset).toArray = ls at hl ⊢
  have hl : lv_has ls 1 [(0, .ref (a 0))] := hl
  have b26 : ∀ (S : ZS) (H : Heap) (locs : List Loc) (ls : Array Slot), X6_needBest_b26 S Q X → va_P D vwCl (zWS k a S) H → va_S (zA a s.heap.size) s.heap H locs → lv_has ls 1 [(0, .ref (a 0))] → zYv p l e (headSpec wsX6_needBest rm_X6_needBest).room s m ([.ref (a 0)] : List Value) below meth c D k a Q X 1 6 0 0 H locs (F0 m 26 ls []) := by
    intro S H locs ls hm hP hS hl
    unfold X6_needBest_b26 at hm
    exact z_retvX hx hb hr hlocks hP hS (Nat.le_of_ble_eq_true rfl) (Nat.le_of_ble_eq_true rfl) hm dX6_needBest_26
  unfold X6_needBest at hm
  refine lv_aload_n hx hb dX6_needBest_0 rfl (lv_at hl 0 rfl) ?_
  refine zg_6_solved hx hb hts i6 hown hK hP (hts _ (List.mem_of_getElem? (i := 3) rfl)) dX6_needBest_1 ?_
  refine lv_iconst (v := (1 : Int32)) hx hb dX6_needBest_4 (by decide) ?_
  refine lv_icmp_eq (tgt := 26) hx hb dX6_needBest_5 (by decide) (fun c_5 => ?_) (fun c_5 => ?_)
  · have hm := hm.1 c_5
    exact b26  S _ _ _ hm hP hS (lv_sub hl [0] rfl)
  · have hm := hm.2 c_5
    refine lv_aload_n hx hb dX6_needBest_8 rfl (lv_at hl 0 rfl) ?_
    refine zg_6_solved hx hb hts i6 hown hK hP (hts _ (List.mem_of_getElem? (i := 3) rfl)) dX6_needBest_9 ?_
    refine lv_iconst (v := (2 : Int32)) hx hb dX6_needBest_12 (by decide) ?_
    refine lv_icmp_eq (tgt := 26) hx hb dX6_needBest_13 (by decide) (fun c_13 => ?_) (fun c_13 => ?_)
    · have hm := hm.1 c_13
      exact b26  S _ _ _ hm hP hS (lv_sub hl [0] rfl)
    · have hm := hm.2 c_13
      exact z_throw (text := "nothing is solved with a best point") hx hb hlt hlocks hxt hown hts (List.mem_of_getElem? (i := 1) rfl) (List.mem_of_getElem? (i := 2) rfl) (fun _ h => (List.mem_cons_of_mem _ (List.mem_append_right _ h))) zbw_66 (by decide +kernel) (by decide +kernel) zfit (by decide +kernel) hX hP hS (hl.1.trans hml.symm) dX6_needBest_16 dX6_needBest_19 dX6_needBest_20 dX6_needBest_22 dX6_needBest_25 (Nat.le_of_ble_eq_true rfl) (Nat.le_of_ble_eq_true rfl) (Nat.le_of_ble_eq_true rfl) (Nat.le_of_ble_eq_true rfl) (Nat.le_of_ble_eq_true rfl) (Nat.le_of_ble_eq_true rfl) hm

abbrev rm_X6_at : Room := { frames := 7, cells := 2, slots := 12, locals := 111 }
def X6_at (y1 : Int32) (S : ZS) (Q : Int32 → ZS → Prop) (X : String → ZS → Prop) : Prop :=
  X6_needBest S (fun S_1 => X6_needColumn y1 S_1 (fun S_6 => vp_in y1 10 ∧ Q (S_6.1 7 (y1).toNatClampNeg) S_6) X) X
set_option maxHeartbeats 4000000 in
set_option maxRecDepth 100000 in
theorem c_X6_at (l : Launch) (hlt : l.stackTraces = false) (D : va_G) (k : Nat → ClassId) (a : Nat → Nat) (hj : zDj a) (y1 : Int32) (S : ZS) (Q : Int32 → ZS → Prop) (X : String → ZS → Prop) (hm : X6_at y1 S Q X) (sz : Nat) : vx_Met l yX6_at wsX6_at rm_X6_at (zPcX D k a [.ref (a 0), .int y1] S sz) (va_Qi Q (zB D k a) (zA a sz)) (zXC D k a X sz) 2 12 (zA a sz) := by
  refine vx_ofW (cc := cX6_at) (maxL := 2) (ret := (some .int)) (by decide) rfl ?_
  intro p e s m args below meth c s₁ B hml hxt hv
  obtain ⟨rfl, hsz, hP, hK, hX⟩ := hv
  have hx := B.exec
  have hb := B.bytes
  have hr := B.returns
  have hts := atoms_spec (ws := wsX6_at) B.pre
  have hown : s.vm.findClass RX6 = some m.cls := findClass_of_methodNamed B.named
  have hlocks := B.notSynchronized
  subst hsz
  have hS : va_S (zA a s.heap.size) s.heap s.heap [] := va_S.rf
  have hF : CallFix p m c cX6_at 2 s _ wsX6_at RX6 := ⟨hx, hb, hml, hown, hts⟩
  have i6 : ∀ w ∈ wsX60, w ∈ wsX6_at := fun _ h => (List.mem_cons_of_mem _ (List.mem_append_left _ (List.mem_append_left _ (List.mem_append_left _ (List.mem_append_right _ h)))))
  have hl := lv_entry ([.ref (a 0), .int y1]) (n := 2) (Nat.le_of_ble_eq_true rfl)
  rw [lg_entry_eq]
  generalize (lg_sl ([.ref (a 0), .int y1]) ++ List.replicate (2 - (lg_sl ([.ref (a 0), .int y1])).length) Slot.unset).toArray = ls at hl ⊢
  have hl : lv_has ls 2 [(0, .ref (a 0)), (1, .int y1)] := hl
  unfold X6_at at hm
  refine lv_aload_n hx hb dX6_at_0 rfl (lv_at hl 0 rfl) ?_
  refine z_xVv (As := []) (rest := []) hF hlocks hxt hK hX hP hS zO_0 rfl rfl (c_X6_needBest l hlt D k a hj  S _ X hm _) (cwV 0 hts gX6_at_X6_needBest rfl rfl rfl (by decide +kernel) ⟨Nat.le_of_ble_eq_true rfl, Nat.le_of_ble_eq_true rfl⟩) rfl hl.1 rfl (Nat.le_of_ble_eq_true rfl) dX6_at_1 ⟨Nat.le_of_ble_eq_true rfl, Nat.le_of_ble_eq_true rfl⟩ (Nat.le_of_ble_eq_true rfl) (Nat.le_of_ble_eq_true rfl) (fun S_1 H locs hm hP hS => ?_)
  refine lv_aload_n hx hb dX6_at_4 rfl (lv_at hl 0 rfl) ?_
  refine lv_iload_n hx hb dX6_at_5 rfl (lv_at hl 1 rfl) ?_
  refine z_xVv (As := [.int y1]) (rest := []) hF hlocks hxt hK hX hP hS zO_0 rfl rfl (c_X6_needColumn l hlt D k a hj y1 S_1 _ X hm _) (cwV 1 hts gX6_at_X6_needColumn rfl rfl rfl (by decide +kernel) ⟨Nat.le_of_ble_eq_true rfl, Nat.le_of_ble_eq_true rfl⟩) rfl hl.1 rfl (Nat.le_of_ble_eq_true rfl) dX6_at_6 ⟨Nat.le_of_ble_eq_true rfl, Nat.le_of_ble_eq_true rfl⟩ (Nat.le_of_ble_eq_true rfl) (Nat.le_of_ble_eq_true rfl) (fun S_6 H locs hm hP hS => ?_)
  refine lv_aload_n hx hb dX6_at_9 rfl (lv_at hl 0 rfl) ?_
  refine zg_6_best hx hb hts i6 hown hK hP (hts _ (List.mem_of_getElem? (i := 1) rfl)) dX6_at_10 ?_
  refine lv_iload_n hx hb dX6_at_13 rfl (lv_at hl 1 rfl) ?_
  obtain ⟨h_14, hm⟩ := hm
  refine z_iald hx hb hK hP zI_7 h_14 dX6_at_14 ?_
  exact z_retiX hx hb hr hlocks hP hS (Nat.le_of_ble_eq_true rfl) (Nat.le_of_ble_eq_true rfl) hm dX6_at_15

abbrev rm_X6_value : Room := { frames := 7, cells := 1, slots := 6, locals := 110 }
def X6_value_b44 (x1 : Int32) (S : ZS) (Q : Int32 → ZS → Prop) (X : String → ZS → Prop) : Prop :=
  Q x1 S
def X6_value_B8 (x1 : Int32) (x2 : Int32) (S : ZS) (Q : Int32 → ZS → Prop) (X : String → ZS → Prop) (k8 : Int32 × Int32 × ZS → Prop) : Prop :=
  ((S.1 1 0) ≤ x2 → X6_value_b44 x1 S Q X) ∧ (¬ (S.1 1 0) ≤ x2 → vp_in x2 10 ∧ vp_in x2 10 ∧ ∀ x1_37 : Int32, x1_37 = (x1 + ((S.1 10 (x2).toNatClampNeg) * (S.1 7 (x2).toNatClampNeg))) → ∀ x2_38 : Int32, x2_38 = x2 + (1 : Int32) → k8 (x1_37, x2_38, S))
def X6_value_L8 (Q : Int32 → ZS → Prop) (X : String → ZS → Prop) : (Int32 × Int32 × ZS) → ((Int32 × Int32 × ZS) → Prop) → Prop := fun st k8 => X6_value_B8 st.1 st.2.1 st.2.2 Q X k8
def X6_value (S : ZS) (Q : Int32 → ZS → Prop) (X : String → ZS → Prop) : Prop :=
  X6_needBest S (fun S_1 => zl (X6_value_L8 Q X) ((0 : Int32), (0 : Int32), S_1)) X
set_option maxHeartbeats 4000000 in
set_option maxRecDepth 100000 in
theorem c_X6_value (l : Launch) (hlt : l.stackTraces = false) (D : va_G) (k : Nat → ClassId) (a : Nat → Nat) (hj : zDj a) (S : ZS) (Q : Int32 → ZS → Prop) (X : String → ZS → Prop) (hm : X6_value S Q X) (sz : Nat) : vx_Met l yX6_value wsX6_value rm_X6_value (zPcX D k a [.ref (a 0)] S sz) (va_Qi Q (zB D k a) (zA a sz)) (zXC D k a X sz) 1 6 (zA a sz) := by
  refine vx_ofW (cc := cX6_value) (maxL := 3) (ret := (some .int)) (by decide) rfl ?_
  intro p e s m args below meth c s₁ B hml hxt hv
  obtain ⟨rfl, hsz, hP, hK, hX⟩ := hv
  have hx := B.exec
  have hb := B.bytes
  have hr := B.returns
  have hts := atoms_spec (ws := wsX6_value) B.pre
  have hown : s.vm.findClass RX6 = some m.cls := findClass_of_methodNamed B.named
  have hlocks := B.notSynchronized
  subst hsz
  have hS : va_S (zA a s.heap.size) s.heap s.heap [] := va_S.rf
  have hF : CallFix p m c cX6_value 3 s _ wsX6_value RX6 := ⟨hx, hb, hml, hown, hts⟩
  have i5 : ∀ w ∈ wsX50, w ∈ wsX6_value := fun _ h => (List.mem_cons_of_mem _ (List.mem_append_left _ (List.mem_append_right _ h)))
  have i6 : ∀ w ∈ wsX60, w ∈ wsX6_value := fun _ h => (List.mem_cons_of_mem _ (List.mem_append_left _ (List.mem_append_left _ (List.mem_append_right _ h))))
  have hl := lv_entry ([.ref (a 0)]) (n := 3) (Nat.le_of_ble_eq_true rfl)
  rw [lg_entry_eq]
  generalize (lg_sl ([.ref (a 0)]) ++ List.replicate (3 - (lg_sl ([.ref (a 0)])).length) Slot.unset).toArray = ls at hl ⊢
  have hl : lv_has ls 3 [(0, .ref (a 0))] := hl
  have b44 : ∀ (x1 : Int32) (S : ZS) (H : Heap) (locs : List Loc) (ls : Array Slot), X6_value_b44 x1 S Q X → va_P D vwCl (zWS k a S) H → va_S (zA a s.heap.size) s.heap H locs → lv_has ls 3 [(0, .ref (a 0)), (1, .int x1)] → zYi p l e (headSpec wsX6_value rm_X6_value).room s m ([.ref (a 0)] : List Value) below meth c D k a Q X 1 6 1 6 H locs (F0 m 44 ls []) := by
    intro x1 S H locs ls hm hP hS hl
    unfold X6_value_b44 at hm
    refine lv_iload_n hx hb dX6_value_44 rfl (lv_at hl 1 rfl) ?_
    exact z_retiX hx hb hr hlocks hP hS (Nat.le_of_ble_eq_true rfl) (Nat.le_of_ble_eq_true rfl) hm dX6_value_45
  have L8 : ∀ (n : Nat) (x1 : Int32) (x2 : Int32) (S : ZS) (H : Heap) (locs : List Loc) (ls : Array Slot), zn (X6_value_L8 Q X) n (x1, x2, S) → va_P D vwCl (zWS k a S) H → va_S (zA a s.heap.size) s.heap H locs → lv_has ls 3 [(0, .ref (a 0)), (1, .int x1), (2, .int x2)] → zYi p l e (headSpec wsX6_value rm_X6_value).room s m ([.ref (a 0)] : List Value) below meth c D k a Q X 1 6 1 6 H locs (F0 m 8 ls []) := by
    intro n
    induction n with
    | zero =>
      intro x1 x2 S H locs ls hm
      exact hm.elim
    | succ n ih8 =>
      intro x1 x2 S H locs ls hm hP hS hl
      have hm : X6_value_B8 x1 x2 S Q X (zn (X6_value_L8 Q X) n) := hm
      generalize zn (X6_value_L8 Q X) n = k8 at hm ih8
      unfold X6_value_B8 at hm
      refine lv_iload_n hx hb dX6_value_8 rfl (lv_at hl 2 rfl) ?_
      refine lv_aload_n hx hb dX6_value_9 rfl (lv_at hl 0 rfl) ?_
      refine zg_6_whole hx hb hts i6 hown hK hP (hts _ (List.mem_of_getElem? (i := 1) rfl)) dX6_value_10 ?_
      refine zg_5_columns hx hb hts i5 hown hK hP (hts _ (List.mem_of_getElem? (i := 2) rfl)) dX6_value_13 ?_
      refine lv_icmp_ge (tgt := 44) hx hb dX6_value_16 (by decide) (fun c_16 => ?_) (fun c_16 => ?_)
      · have hm := hm.1 c_16
        exact b44 x1 S _ _ _ hm hP hS (lv_sub hl [0, 1] rfl)
      · have hm := hm.2 c_16
        refine lv_iload_n hx hb dX6_value_19 rfl (lv_at hl 1 rfl) ?_
        refine lv_aload_n hx hb dX6_value_20 rfl (lv_at hl 0 rfl) ?_
        refine zg_6_whole hx hb hts i6 hown hK hP (hts _ (List.mem_of_getElem? (i := 1) rfl)) dX6_value_21 ?_
        refine zg_5_cost hx hb hts i5 hown hK hP (hts _ (List.mem_of_getElem? (i := 3) rfl)) dX6_value_24 ?_
        refine lv_iload_n hx hb dX6_value_27 rfl (lv_at hl 2 rfl) ?_
        obtain ⟨h_28, hm⟩ := hm
        refine z_iald hx hb hK hP zI_10 h_28 dX6_value_28 ?_
        refine lv_aload_n hx hb dX6_value_29 rfl (lv_at hl 0 rfl) ?_
        refine zg_6_best hx hb hts i6 hown hK hP (hts _ (List.mem_of_getElem? (i := 4) rfl)) dX6_value_30 ?_
        refine lv_iload_n hx hb dX6_value_33 rfl (lv_at hl 2 rfl) ?_
        obtain ⟨h_34, hm⟩ := hm
        refine z_iald hx hb hK hP zI_7 h_34 dX6_value_34 ?_
        refine lv_imul hx hb dX6_value_35 ?_
        refine lv_iadd hx hb dX6_value_36 ?_
        refine lv_topi (fun x1_37 ex1_37 => ?_)
        have hm := hm x1_37 ex1_37
        refine lv_istore_n (lv' := [(1, .int x1_37), (0, .ref (a 0)), (2, .int x2)]) hx hb dX6_value_37 rfl hl (by decide) rfl (fun ls hl => ?_)
        obtain ⟨x2_38, ex2_38⟩ : ∃ y : Int32, y = x2 + (1 : Int32) := ⟨_, rfl⟩
        have hm := hm x2_38 ex2_38
        refine lv_iinc (v := x2_38) (lv' := [(2, .int x2_38), (1, .int x1_37), (0, .ref (a 0))]) hx hb dX6_value_38 hl (k := 2) rfl (by rw [ex2_38]; rfl) (by decide) rfl (fun ls hl => ?_)
        refine lv_goto (tgt := 8) hx hb dX6_value_41 (by decide) ?_
        exact ih8 x1_37 x2_38 S _ _ _ hm hP hS (lv_sub hl [2, 1, 0] rfl)
  unfold X6_value at hm
  refine lv_aload_n hx hb dX6_value_0 rfl (lv_at hl 0 rfl) ?_
  refine z_xVv (As := []) (rest := []) hF hlocks hxt hK hX hP hS zO_0 rfl rfl (c_X6_needBest l hlt D k a hj  S _ X hm _) (cwV 0 hts gX6_value_X6_needBest rfl rfl rfl (by decide +kernel) ⟨Nat.le_of_ble_eq_true rfl, Nat.le_of_ble_eq_true rfl⟩) rfl hl.1 rfl (Nat.le_of_ble_eq_true rfl) dX6_value_1 ⟨Nat.le_of_ble_eq_true rfl, Nat.le_of_ble_eq_true rfl⟩ (Nat.le_of_ble_eq_true rfl) (Nat.le_of_ble_eq_true rfl) (fun S_1 H locs hm hP hS => ?_)
  refine lv_iconst (v := (0 : Int32)) hx hb dX6_value_4 (by decide) ?_
  refine lv_istore_n (lv' := [(1, .int (0 : Int32)), (0, .ref (a 0))]) hx hb dX6_value_5 rfl hl (by decide) rfl (fun ls hl => ?_)
  refine lv_iconst (v := (0 : Int32)) hx hb dX6_value_6 (by decide) ?_
  refine lv_istore_n (lv' := [(2, .int (0 : Int32)), (1, .int (0 : Int32)), (0, .ref (a 0))]) hx hb dX6_value_7 rfl hl (by decide) rfl (fun ls hl => ?_)
  obtain ⟨n8, hm⟩ := hm
  exact L8 n8 (0 : Int32) (0 : Int32) S_1 _ _ _ hm hP hS (lv_sub hl [2, 1, 0] rfl)

abbrev rm_X6_sum : Room := { frames := 7, cells := 2, slots := 12, locals := 111 }
def X6_sum_b51 (x2 : Int32) (S : ZS) (Q : Int32 → ZS → Prop) (X : String → ZS → Prop) : Prop :=
  Q x2 S
def X6_sum_B13 (x1 : Int32) (x2 : Int32) (x3 : Int32) (S : ZS) (Q : Int32 → ZS → Prop) (X : String → ZS → Prop) (k13 : Int32 × Int32 × ZS → Prop) : Prop :=
  ((S.1 1 0) ≤ x3 → X6_sum_b51 x2 S Q X) ∧ (¬ (S.1 1 0) ≤ x3 → vp_in x1 8 ∧ vp_in x3 10 ∧ vp_in x3 10 ∧ ∀ x2_44 : Int32, x2_44 = (x2 + ((S.1 (14 + (x1).toNatClampNeg) (x3).toNatClampNeg) * (S.1 7 (x3).toNatClampNeg))) → ∀ x3_45 : Int32, x3_45 = x3 + (1 : Int32) → k13 (x2_44, x3_45, S))
def X6_sum_L13 (x1 : Int32) (Q : Int32 → ZS → Prop) (X : String → ZS → Prop) : (Int32 × Int32 × ZS) → ((Int32 × Int32 × ZS) → Prop) → Prop := fun st k13 => X6_sum_B13 x1 st.1 st.2.1 st.2.2 Q X k13
def X6_sum (y1 : Int32) (S : ZS) (Q : Int32 → ZS → Prop) (X : String → ZS → Prop) : Prop :=
  X6_needBest S (fun S_1 => X6_needRow y1 S_1 (fun S_6 => zl (X6_sum_L13 y1 Q X) ((0 : Int32), (0 : Int32), S_6)) X) X
set_option maxHeartbeats 4000000 in
set_option maxRecDepth 100000 in
theorem c_X6_sum (l : Launch) (hlt : l.stackTraces = false) (D : va_G) (k : Nat → ClassId) (a : Nat → Nat) (hj : zDj a) (y1 : Int32) (S : ZS) (Q : Int32 → ZS → Prop) (X : String → ZS → Prop) (hm : X6_sum y1 S Q X) (sz : Nat) : vx_Met l yX6_sum wsX6_sum rm_X6_sum (zPcX D k a [.ref (a 0), .int y1] S sz) (va_Qi Q (zB D k a) (zA a sz)) (zXC D k a X sz) 2 12 (zA a sz) := by
  refine vx_ofW (cc := cX6_sum) (maxL := 4) (ret := (some .int)) (by decide) rfl ?_
  intro p e s m args below meth c s₁ B hml hxt hv
  obtain ⟨rfl, hsz, hP, hK, hX⟩ := hv
  have hx := B.exec
  have hb := B.bytes
  have hr := B.returns
  have hts := atoms_spec (ws := wsX6_sum) B.pre
  have hown : s.vm.findClass RX6 = some m.cls := findClass_of_methodNamed B.named
  have hlocks := B.notSynchronized
  subst hsz
  have hS : va_S (zA a s.heap.size) s.heap s.heap [] := va_S.rf
  have hF : CallFix p m c cX6_sum 4 s _ wsX6_sum RX6 := ⟨hx, hb, hml, hown, hts⟩
  have i5 : ∀ w ∈ wsX50, w ∈ wsX6_sum := fun _ h => (List.mem_cons_of_mem _ (List.mem_append_left _ (List.mem_append_left _ (List.mem_append_right _ h))))
  have i6 : ∀ w ∈ wsX60, w ∈ wsX6_sum := fun _ h => (List.mem_cons_of_mem _ (List.mem_append_left _ (List.mem_append_left _ (List.mem_append_left _ (List.mem_append_right _ h)))))
  have hl := lv_entry ([.ref (a 0), .int y1]) (n := 4) (Nat.le_of_ble_eq_true rfl)
  rw [lg_entry_eq]
  generalize (lg_sl ([.ref (a 0), .int y1]) ++ List.replicate (4 - (lg_sl ([.ref (a 0), .int y1])).length) Slot.unset).toArray = ls at hl ⊢
  have hl : lv_has ls 4 [(0, .ref (a 0)), (1, .int y1)] := hl
  have b51 : ∀ (x2 : Int32) (S : ZS) (H : Heap) (locs : List Loc) (ls : Array Slot), X6_sum_b51 x2 S Q X → va_P D vwCl (zWS k a S) H → va_S (zA a s.heap.size) s.heap H locs → lv_has ls 4 [(0, .ref (a 0)), (2, .int x2)] → zYi p l e (headSpec wsX6_sum rm_X6_sum).room s m ([.ref (a 0), .int y1] : List Value) below meth c D k a Q X 2 12 2 12 H locs (F0 m 51 ls []) := by
    intro x2 S H locs ls hm hP hS hl
    unfold X6_sum_b51 at hm
    refine lv_iload_n hx hb dX6_sum_51 rfl (lv_at hl 1 rfl) ?_
    exact z_retiX hx hb hr hlocks hP hS (Nat.le_of_ble_eq_true rfl) (Nat.le_of_ble_eq_true rfl) hm dX6_sum_52
  have L13 : ∀ (x1 : Int32) (n : Nat) (x2 : Int32) (x3 : Int32) (S : ZS) (H : Heap) (locs : List Loc) (ls : Array Slot), zn (X6_sum_L13 x1 Q X) n (x2, x3, S) → va_P D vwCl (zWS k a S) H → va_S (zA a s.heap.size) s.heap H locs → lv_has ls 4 [(0, .ref (a 0)), (1, .int x1), (2, .int x2), (3, .int x3)] → zYi p l e (headSpec wsX6_sum rm_X6_sum).room s m ([.ref (a 0), .int y1] : List Value) below meth c D k a Q X 2 12 2 12 H locs (F0 m 13 ls []) := by
    intro x1 n
    induction n with
    | zero =>
      intro x2 x3 S H locs ls hm
      exact hm.elim
    | succ n ih13 =>
      intro x2 x3 S H locs ls hm hP hS hl
      have hm : X6_sum_B13 x1 x2 x3 S Q X (zn (X6_sum_L13 x1 Q X) n) := hm
      generalize zn (X6_sum_L13 x1 Q X) n = k13 at hm ih13
      unfold X6_sum_B13 at hm
      refine lv_iload_n hx hb dX6_sum_13 rfl (lv_at hl 3 rfl) ?_
      refine lv_aload_n hx hb dX6_sum_14 rfl (lv_at hl 0 rfl) ?_
      refine zg_6_whole hx hb hts i6 hown hK hP (hts _ (List.mem_of_getElem? (i := 1) rfl)) dX6_sum_15 ?_
      refine zg_5_columns hx hb hts i5 hown hK hP (hts _ (List.mem_of_getElem? (i := 2) rfl)) dX6_sum_18 ?_
      refine lv_icmp_ge (tgt := 51) hx hb dX6_sum_21 (by decide) (fun c_21 => ?_) (fun c_21 => ?_)
      · have hm := hm.1 c_21
        exact b51 x2 S _ _ _ hm hP hS (lv_sub hl [0, 2] rfl)
      · have hm := hm.2 c_21
        refine lv_iload_n hx hb dX6_sum_24 rfl (lv_at hl 2 rfl) ?_
        refine lv_aload_n hx hb dX6_sum_25 rfl (lv_at hl 0 rfl) ?_
        refine zg_6_whole hx hb hts i6 hown hK hP (hts _ (List.mem_of_getElem? (i := 1) rfl)) dX6_sum_26 ?_
        refine zg_5_a hx hb hts i5 hown hK hP (hts _ (List.mem_of_getElem? (i := 3) rfl)) dX6_sum_29 ?_
        refine lv_iload_n hx hb dX6_sum_32 rfl (lv_at hl 1 rfl) ?_
        obtain ⟨h_33, hm⟩ := hm
        refine z_aald hx hb hK hP zQ_13 h_33 dX6_sum_33 ?_
        refine lv_iload_n hx hb dX6_sum_34 rfl (lv_at hl 3 rfl) ?_
        obtain ⟨h_35, hm⟩ := hm
        refine z_iald hx hb hK hP (zRi_13 h_33) h_35 dX6_sum_35 ?_
        refine lv_aload_n hx hb dX6_sum_36 rfl (lv_at hl 0 rfl) ?_
        refine zg_6_best hx hb hts i6 hown hK hP (hts _ (List.mem_of_getElem? (i := 4) rfl)) dX6_sum_37 ?_
        refine lv_iload_n hx hb dX6_sum_40 rfl (lv_at hl 3 rfl) ?_
        obtain ⟨h_41, hm⟩ := hm
        refine z_iald hx hb hK hP zI_7 h_41 dX6_sum_41 ?_
        refine lv_imul hx hb dX6_sum_42 ?_
        refine lv_iadd hx hb dX6_sum_43 ?_
        refine lv_topi (fun x2_44 ex2_44 => ?_)
        have hm := hm x2_44 ex2_44
        refine lv_istore_n (lv' := [(2, .int x2_44), (0, .ref (a 0)), (1, .int x1), (3, .int x3)]) hx hb dX6_sum_44 rfl hl (by decide) rfl (fun ls hl => ?_)
        obtain ⟨x3_45, ex3_45⟩ : ∃ y : Int32, y = x3 + (1 : Int32) := ⟨_, rfl⟩
        have hm := hm x3_45 ex3_45
        refine lv_iinc (v := x3_45) (lv' := [(3, .int x3_45), (2, .int x2_44), (0, .ref (a 0)), (1, .int x1)]) hx hb dX6_sum_45 hl (k := 3) rfl (by rw [ex3_45]; rfl) (by decide) rfl (fun ls hl => ?_)
        refine lv_goto (tgt := 13) hx hb dX6_sum_48 (by decide) ?_
        exact ih13 x2_44 x3_45 S _ _ _ hm hP hS (lv_sub hl [2, 3, 1, 0] rfl)
  unfold X6_sum at hm
  refine lv_aload_n hx hb dX6_sum_0 rfl (lv_at hl 0 rfl) ?_
  refine z_xVv (As := []) (rest := []) hF hlocks hxt hK hX hP hS zO_0 rfl rfl (c_X6_needBest l hlt D k a hj  S _ X hm _) (cwV 0 hts gX6_sum_X6_needBest rfl rfl rfl (by decide +kernel) ⟨Nat.le_of_ble_eq_true rfl, Nat.le_of_ble_eq_true rfl⟩) rfl hl.1 rfl (Nat.le_of_ble_eq_true rfl) dX6_sum_1 ⟨Nat.le_of_ble_eq_true rfl, Nat.le_of_ble_eq_true rfl⟩ (Nat.le_of_ble_eq_true rfl) (Nat.le_of_ble_eq_true rfl) (fun S_1 H locs hm hP hS => ?_)
  refine lv_aload_n hx hb dX6_sum_4 rfl (lv_at hl 0 rfl) ?_
  refine lv_iload_n hx hb dX6_sum_5 rfl (lv_at hl 1 rfl) ?_
  refine z_xVv (As := [.int y1]) (rest := []) hF hlocks hxt hK hX hP hS zO_0 rfl rfl (c_X6_needRow l hlt D k a hj y1 S_1 _ X hm _) (cwV 1 hts gX6_sum_X6_needRow rfl rfl rfl (by decide +kernel) ⟨Nat.le_of_ble_eq_true rfl, Nat.le_of_ble_eq_true rfl⟩) rfl hl.1 rfl (Nat.le_of_ble_eq_true rfl) dX6_sum_6 ⟨Nat.le_of_ble_eq_true rfl, Nat.le_of_ble_eq_true rfl⟩ (Nat.le_of_ble_eq_true rfl) (Nat.le_of_ble_eq_true rfl) (fun S_6 H locs hm hP hS => ?_)
  refine lv_iconst (v := (0 : Int32)) hx hb dX6_sum_9 (by decide) ?_
  refine lv_istore_n (lv' := [(2, .int (0 : Int32)), (0, .ref (a 0)), (1, .int y1)]) hx hb dX6_sum_10 rfl hl (by decide) rfl (fun ls hl => ?_)
  refine lv_iconst (v := (0 : Int32)) hx hb dX6_sum_11 (by decide) ?_
  refine lv_istore_n (lv' := [(3, .int (0 : Int32)), (2, .int (0 : Int32)), (0, .ref (a 0)), (1, .int y1)]) hx hb dX6_sum_12 rfl hl (by decide) rfl (fun ls hl => ?_)
  obtain ⟨n13, hm⟩ := hm
  exact L13 y1 n13 (0 : Int32) (0 : Int32) S_6 _ _ _ hm hP hS (lv_sub hl [2, 3, 1, 0] rfl)

abbrev rm_X6_needPrices : Room := { frames := 6, cells := 1, slots := 6, locals := 90 }
def X6_needPrices (S : ZS) (Q : ZS → Prop) (X : String → ZS → Prop) : Prop :=
  ((S.1 0 7) = (1 : Int32) → Q S) ∧ (¬ (S.1 0 7) = (1 : Int32) → X "java/lang/IllegalStateException" S)
set_option maxHeartbeats 4000000 in
set_option maxRecDepth 100000 in
theorem c_X6_needPrices (l : Launch) (hlt : l.stackTraces = false) (D : va_G) (k : Nat → ClassId) (a : Nat → Nat) (hj : zDj a) (S : ZS) (Q : ZS → Prop) (X : String → ZS → Prop) (hm : X6_needPrices S Q X) (sz : Nat) : vx_Met l yX6_needPrices wsX6_needPrices rm_X6_needPrices (zPcX D k a [.ref (a 0)] S sz) (va_Qv Q (zB D k a) (zA a sz)) (zXC D k a X sz) 1 6 (zA a sz) := by
  refine vx_ofW (cc := cX6_needPrices) (maxL := 1) (ret := none) (by decide) rfl ?_
  intro p e s m args below meth c s₁ B hml hxt hv
  obtain ⟨rfl, hsz, hP, hK, hX⟩ := hv
  have hx := B.exec
  have hb := B.bytes
  have hr := B.returns
  have hts := atoms_spec (ws := wsX6_needPrices) B.pre
  have hown : s.vm.findClass RX6 = some m.cls := findClass_of_methodNamed B.named
  have hlocks := B.notSynchronized
  subst hsz
  have hS : va_S (zA a s.heap.size) s.heap s.heap [] := va_S.rf
  have hF : CallFix p m c cX6_needPrices 1 s _ wsX6_needPrices RX6 := ⟨hx, hb, hml, hown, hts⟩
  have i6 : ∀ w ∈ wsX60, w ∈ wsX6_needPrices := fun _ h => (List.mem_cons_of_mem _ (List.mem_append_left _ (List.mem_append_right _ h)))
  have hl := lv_entry ([.ref (a 0)]) (n := 1) (Nat.le_of_ble_eq_true rfl)
  rw [lg_entry_eq]
  generalize (lg_sl ([.ref (a 0)]) ++ List.replicate (1 - (lg_sl ([.ref (a 0)])).length) Slot.unset).toArray = ls at hl ⊢
  have hl : lv_has ls 1 [(0, .ref (a 0))] := hl
  unfold X6_needPrices at hm
  refine lv_aload_n hx hb dX6_needPrices_0 rfl (lv_at hl 0 rfl) ?_
  refine zg_6_solved hx hb hts i6 hown hK hP (hts _ (List.mem_of_getElem? (i := 3) rfl)) dX6_needPrices_1 ?_
  refine lv_iconst (v := (1 : Int32)) hx hb dX6_needPrices_4 (by decide) ?_
  refine lv_icmp_eq (tgt := 18) hx hb dX6_needPrices_5 (by decide) (fun c_5 => ?_) (fun c_5 => ?_)
  · have hm := hm.1 c_5
    exact z_retvX hx hb hr hlocks hP hS (Nat.le_of_ble_eq_true rfl) (Nat.le_of_ble_eq_true rfl) hm dX6_needPrices_18
  · have hm := hm.2 c_5
    exact z_throw (text := "no flow is solved with a best point") hx hb hlt hlocks hxt hown hts (List.mem_of_getElem? (i := 1) rfl) (List.mem_of_getElem? (i := 2) rfl) (fun _ h => (List.mem_cons_of_mem _ (List.mem_append_right _ h))) zbw_66 (by decide +kernel) (by decide +kernel) zfit (by decide +kernel) hX hP hS (hl.1.trans hml.symm) dX6_needPrices_8 dX6_needPrices_11 dX6_needPrices_12 dX6_needPrices_14 dX6_needPrices_17 (Nat.le_of_ble_eq_true rfl) (Nat.le_of_ble_eq_true rfl) (Nat.le_of_ble_eq_true rfl) (Nat.le_of_ble_eq_true rfl) (Nat.le_of_ble_eq_true rfl) (Nat.le_of_ble_eq_true rfl) hm

abbrev rm_X6_price : Room := { frames := 7, cells := 2, slots := 12, locals := 111 }
def X6_price (y1 : Int32) (S : ZS) (Q : Int32 → ZS → Prop) (X : String → ZS → Prop) : Prop :=
  X6_needPrices S (fun S_1 => X6_needRow y1 S_1 (fun S_6 => vp_in y1 8 ∧ Q (S_6.1 37 (y1).toNatClampNeg) S_6) X) X
set_option maxHeartbeats 4000000 in
set_option maxRecDepth 100000 in
theorem c_X6_price (l : Launch) (hlt : l.stackTraces = false) (D : va_G) (k : Nat → ClassId) (a : Nat → Nat) (hj : zDj a) (y1 : Int32) (S : ZS) (Q : Int32 → ZS → Prop) (X : String → ZS → Prop) (hm : X6_price y1 S Q X) (sz : Nat) : vx_Met l yX6_price wsX6_price rm_X6_price (zPcX D k a [.ref (a 0), .int y1] S sz) (va_Qi Q (zB D k a) (zA a sz)) (zXC D k a X sz) 2 12 (zA a sz) := by
  refine vx_ofW (cc := cX6_price) (maxL := 2) (ret := (some .int)) (by decide) rfl ?_
  intro p e s m args below meth c s₁ B hml hxt hv
  obtain ⟨rfl, hsz, hP, hK, hX⟩ := hv
  have hx := B.exec
  have hb := B.bytes
  have hr := B.returns
  have hts := atoms_spec (ws := wsX6_price) B.pre
  have hown : s.vm.findClass RX6 = some m.cls := findClass_of_methodNamed B.named
  have hlocks := B.notSynchronized
  subst hsz
  have hS : va_S (zA a s.heap.size) s.heap s.heap [] := va_S.rf
  have hF : CallFix p m c cX6_price 2 s _ wsX6_price RX6 := ⟨hx, hb, hml, hown, hts⟩
  have i2 : ∀ w ∈ wsX20, w ∈ wsX6_price := fun _ h => (List.mem_cons_of_mem _ (List.mem_append_left _ (List.mem_append_left _ (List.mem_append_left _ (List.mem_append_right _ h)))))
  have i6 : ∀ w ∈ wsX60, w ∈ wsX6_price := fun _ h => (List.mem_cons_of_mem _ (List.mem_append_left _ (List.mem_append_left _ (List.mem_append_left _ (List.mem_append_left _ (List.mem_append_right _ h))))))
  have hl := lv_entry ([.ref (a 0), .int y1]) (n := 2) (Nat.le_of_ble_eq_true rfl)
  rw [lg_entry_eq]
  generalize (lg_sl ([.ref (a 0), .int y1]) ++ List.replicate (2 - (lg_sl ([.ref (a 0), .int y1])).length) Slot.unset).toArray = ls at hl ⊢
  have hl : lv_has ls 2 [(0, .ref (a 0)), (1, .int y1)] := hl
  unfold X6_price at hm
  refine lv_aload_n hx hb dX6_price_0 rfl (lv_at hl 0 rfl) ?_
  refine z_xVv (As := []) (rest := []) hF hlocks hxt hK hX hP hS zO_0 rfl rfl (c_X6_needPrices l hlt D k a hj  S _ X hm _) (cwV 0 hts gX6_price_X6_needPrices rfl rfl rfl (by decide +kernel) ⟨Nat.le_of_ble_eq_true rfl, Nat.le_of_ble_eq_true rfl⟩) rfl hl.1 rfl (Nat.le_of_ble_eq_true rfl) dX6_price_1 ⟨Nat.le_of_ble_eq_true rfl, Nat.le_of_ble_eq_true rfl⟩ (Nat.le_of_ble_eq_true rfl) (Nat.le_of_ble_eq_true rfl) (fun S_1 H locs hm hP hS => ?_)
  refine lv_aload_n hx hb dX6_price_4 rfl (lv_at hl 0 rfl) ?_
  refine lv_iload_n hx hb dX6_price_5 rfl (lv_at hl 1 rfl) ?_
  refine z_xVv (As := [.int y1]) (rest := []) hF hlocks hxt hK hX hP hS zO_0 rfl rfl (c_X6_needRow l hlt D k a hj y1 S_1 _ X hm _) (cwV 1 hts gX6_price_X6_needRow rfl rfl rfl (by decide +kernel) ⟨Nat.le_of_ble_eq_true rfl, Nat.le_of_ble_eq_true rfl⟩) rfl hl.1 rfl (Nat.le_of_ble_eq_true rfl) dX6_price_6 ⟨Nat.le_of_ble_eq_true rfl, Nat.le_of_ble_eq_true rfl⟩ (Nat.le_of_ble_eq_true rfl) (Nat.le_of_ble_eq_true rfl) (fun S_6 H locs hm hP hS => ?_)
  refine lv_aload_n hx hb dX6_price_9 rfl (lv_at hl 0 rfl) ?_
  refine zg_6_prices hx hb hts i6 hown hK hP (hts _ (List.mem_of_getElem? (i := 1) rfl)) dX6_price_10 ?_
  refine zg_2_ofRow hx hb hts i2 hown hK hP (hts _ (List.mem_of_getElem? (i := 2) rfl)) dX6_price_13 ?_
  refine lv_iload_n hx hb dX6_price_16 rfl (lv_at hl 1 rfl) ?_
  obtain ⟨h_17, hm⟩ := hm
  refine z_iald hx hb hK hP zI_37 h_17 dX6_price_17 ?_
  exact z_retiX hx hb hr hlocks hP hS (Nat.le_of_ble_eq_true rfl) (Nat.le_of_ble_eq_true rfl) hm dX6_price_18

abbrev rm_X6_reduced : Room := { frames := 7, cells := 2, slots := 12, locals := 111 }
def X6_reduced_b62 (x2 : Int32) (S : ZS) (Q : Int32 → ZS → Prop) (X : String → ZS → Prop) : Prop :=
  Q x2 S
def X6_reduced_B21 (x1 : Int32) (x2 : Int32) (x3 : Int32) (S : ZS) (Q : Int32 → ZS → Prop) (X : String → ZS → Prop) (k21 : Int32 × Int32 × ZS → Prop) : Prop :=
  ((S.1 1 1) ≤ x3 → X6_reduced_b62 x2 S Q X) ∧ (¬ (S.1 1 1) ≤ x3 → vp_in x3 8 ∧ vp_in x1 10 ∧ vp_in x3 8 ∧ ∀ x2_55 : Int32, x2_55 = (x2 - ((S.1 (14 + (x3).toNatClampNeg) (x1).toNatClampNeg) * (S.1 37 (x3).toNatClampNeg))) → ∀ x3_56 : Int32, x3_56 = x3 + (1 : Int32) → k21 (x2_55, x3_56, S))
def X6_reduced_L21 (x1 : Int32) (Q : Int32 → ZS → Prop) (X : String → ZS → Prop) : (Int32 × Int32 × ZS) → ((Int32 × Int32 × ZS) → Prop) → Prop := fun st k21 => X6_reduced_B21 x1 st.1 st.2.1 st.2.2 Q X k21
def X6_reduced (y1 : Int32) (S : ZS) (Q : Int32 → ZS → Prop) (X : String → ZS → Prop) : Prop :=
  X6_needPrices S (fun S_1 => X6_needColumn y1 S_1 (fun S_6 => vp_in y1 10 ∧ ∀ x2_18 : Int32, x2_18 = (S_6.1 10 (y1).toNatClampNeg) → zl (X6_reduced_L21 y1 Q X) (x2_18, (0 : Int32), S_6)) X) X
set_option maxHeartbeats 4000000 in
set_option maxRecDepth 100000 in
theorem c_X6_reduced (l : Launch) (hlt : l.stackTraces = false) (D : va_G) (k : Nat → ClassId) (a : Nat → Nat) (hj : zDj a) (y1 : Int32) (S : ZS) (Q : Int32 → ZS → Prop) (X : String → ZS → Prop) (hm : X6_reduced y1 S Q X) (sz : Nat) : vx_Met l yX6_reduced wsX6_reduced rm_X6_reduced (zPcX D k a [.ref (a 0), .int y1] S sz) (va_Qi Q (zB D k a) (zA a sz)) (zXC D k a X sz) 2 12 (zA a sz) := by
  refine vx_ofW (cc := cX6_reduced) (maxL := 4) (ret := (some .int)) (by decide) rfl ?_
  intro p e s m args below meth c s₁ B hml hxt hv
  obtain ⟨rfl, hsz, hP, hK, hX⟩ := hv
  have hx := B.exec
  have hb := B.bytes
  have hr := B.returns
  have hts := atoms_spec (ws := wsX6_reduced) B.pre
  have hown : s.vm.findClass RX6 = some m.cls := findClass_of_methodNamed B.named
  have hlocks := B.notSynchronized
  subst hsz
  have hS : va_S (zA a s.heap.size) s.heap s.heap [] := va_S.rf
  have hF : CallFix p m c cX6_reduced 4 s _ wsX6_reduced RX6 := ⟨hx, hb, hml, hown, hts⟩
  have i2 : ∀ w ∈ wsX20, w ∈ wsX6_reduced := fun _ h => (List.mem_cons_of_mem _ (List.mem_append_left _ (List.mem_append_left _ (List.mem_append_right _ h))))
  have i5 : ∀ w ∈ wsX50, w ∈ wsX6_reduced := fun _ h => (List.mem_cons_of_mem _ (List.mem_append_left _ (List.mem_append_left _ (List.mem_append_left _ (List.mem_append_right _ h)))))
  have i6 : ∀ w ∈ wsX60, w ∈ wsX6_reduced := fun _ h => (List.mem_cons_of_mem _ (List.mem_append_left _ (List.mem_append_left _ (List.mem_append_left _ (List.mem_append_left _ (List.mem_append_right _ h))))))
  have hl := lv_entry ([.ref (a 0), .int y1]) (n := 4) (Nat.le_of_ble_eq_true rfl)
  rw [lg_entry_eq]
  generalize (lg_sl ([.ref (a 0), .int y1]) ++ List.replicate (4 - (lg_sl ([.ref (a 0), .int y1])).length) Slot.unset).toArray = ls at hl ⊢
  have hl : lv_has ls 4 [(0, .ref (a 0)), (1, .int y1)] := hl
  have b62 : ∀ (x2 : Int32) (S : ZS) (H : Heap) (locs : List Loc) (ls : Array Slot), X6_reduced_b62 x2 S Q X → va_P D vwCl (zWS k a S) H → va_S (zA a s.heap.size) s.heap H locs → lv_has ls 4 [(0, .ref (a 0)), (2, .int x2)] → zYi p l e (headSpec wsX6_reduced rm_X6_reduced).room s m ([.ref (a 0), .int y1] : List Value) below meth c D k a Q X 2 12 2 12 H locs (F0 m 62 ls []) := by
    intro x2 S H locs ls hm hP hS hl
    unfold X6_reduced_b62 at hm
    refine lv_iload_n hx hb dX6_reduced_62 rfl (lv_at hl 1 rfl) ?_
    exact z_retiX hx hb hr hlocks hP hS (Nat.le_of_ble_eq_true rfl) (Nat.le_of_ble_eq_true rfl) hm dX6_reduced_63
  have L21 : ∀ (x1 : Int32) (n : Nat) (x2 : Int32) (x3 : Int32) (S : ZS) (H : Heap) (locs : List Loc) (ls : Array Slot), zn (X6_reduced_L21 x1 Q X) n (x2, x3, S) → va_P D vwCl (zWS k a S) H → va_S (zA a s.heap.size) s.heap H locs → lv_has ls 4 [(0, .ref (a 0)), (1, .int x1), (2, .int x2), (3, .int x3)] → zYi p l e (headSpec wsX6_reduced rm_X6_reduced).room s m ([.ref (a 0), .int y1] : List Value) below meth c D k a Q X 2 12 2 12 H locs (F0 m 21 ls []) := by
    intro x1 n
    induction n with
    | zero =>
      intro x2 x3 S H locs ls hm
      exact hm.elim
    | succ n ih21 =>
      intro x2 x3 S H locs ls hm hP hS hl
      have hm : X6_reduced_B21 x1 x2 x3 S Q X (zn (X6_reduced_L21 x1 Q X) n) := hm
      generalize zn (X6_reduced_L21 x1 Q X) n = k21 at hm ih21
      unfold X6_reduced_B21 at hm
      refine lv_iload_n hx hb dX6_reduced_21 rfl (lv_at hl 3 rfl) ?_
      refine lv_aload_n hx hb dX6_reduced_22 rfl (lv_at hl 0 rfl) ?_
      refine zg_6_whole hx hb hts i6 hown hK hP (hts _ (List.mem_of_getElem? (i := 1) rfl)) dX6_reduced_23 ?_
      refine zg_5_rows hx hb hts i5 hown hK hP (hts _ (List.mem_of_getElem? (i := 3) rfl)) dX6_reduced_26 ?_
      refine lv_icmp_ge (tgt := 62) hx hb dX6_reduced_29 (by decide) (fun c_29 => ?_) (fun c_29 => ?_)
      · have hm := hm.1 c_29
        exact b62 x2 S _ _ _ hm hP hS (lv_sub hl [0, 2] rfl)
      · have hm := hm.2 c_29
        refine lv_iload_n hx hb dX6_reduced_32 rfl (lv_at hl 2 rfl) ?_
        refine lv_aload_n hx hb dX6_reduced_33 rfl (lv_at hl 0 rfl) ?_
        refine zg_6_whole hx hb hts i6 hown hK hP (hts _ (List.mem_of_getElem? (i := 1) rfl)) dX6_reduced_34 ?_
        refine zg_5_a hx hb hts i5 hown hK hP (hts _ (List.mem_of_getElem? (i := 4) rfl)) dX6_reduced_37 ?_
        refine lv_iload_n hx hb dX6_reduced_40 rfl (lv_at hl 3 rfl) ?_
        obtain ⟨h_41, hm⟩ := hm
        refine z_aald hx hb hK hP zQ_13 h_41 dX6_reduced_41 ?_
        refine lv_iload_n hx hb dX6_reduced_42 rfl (lv_at hl 1 rfl) ?_
        obtain ⟨h_43, hm⟩ := hm
        refine z_iald hx hb hK hP (zRi_13 h_41) h_43 dX6_reduced_43 ?_
        refine lv_aload_n hx hb dX6_reduced_44 rfl (lv_at hl 0 rfl) ?_
        refine zg_6_prices hx hb hts i6 hown hK hP (hts _ (List.mem_of_getElem? (i := 5) rfl)) dX6_reduced_45 ?_
        refine zg_2_ofRow hx hb hts i2 hown hK hP (hts _ (List.mem_of_getElem? (i := 6) rfl)) dX6_reduced_48 ?_
        refine lv_iload_n hx hb dX6_reduced_51 rfl (lv_at hl 3 rfl) ?_
        obtain ⟨h_52, hm⟩ := hm
        refine z_iald hx hb hK hP zI_37 h_52 dX6_reduced_52 ?_
        refine lv_imul hx hb dX6_reduced_53 ?_
        refine lv_isub hx hb dX6_reduced_54 ?_
        refine lv_topi (fun x2_55 ex2_55 => ?_)
        have hm := hm x2_55 ex2_55
        refine lv_istore_n (lv' := [(2, .int x2_55), (0, .ref (a 0)), (1, .int x1), (3, .int x3)]) hx hb dX6_reduced_55 rfl hl (by decide) rfl (fun ls hl => ?_)
        obtain ⟨x3_56, ex3_56⟩ : ∃ y : Int32, y = x3 + (1 : Int32) := ⟨_, rfl⟩
        have hm := hm x3_56 ex3_56
        refine lv_iinc (v := x3_56) (lv' := [(3, .int x3_56), (2, .int x2_55), (0, .ref (a 0)), (1, .int x1)]) hx hb dX6_reduced_56 hl (k := 3) rfl (by rw [ex3_56]; rfl) (by decide) rfl (fun ls hl => ?_)
        refine lv_goto (tgt := 21) hx hb dX6_reduced_59 (by decide) ?_
        exact ih21 x2_55 x3_56 S _ _ _ hm hP hS (lv_sub hl [2, 3, 1, 0] rfl)
  unfold X6_reduced at hm
  refine lv_aload_n hx hb dX6_reduced_0 rfl (lv_at hl 0 rfl) ?_
  refine z_xVv (As := []) (rest := []) hF hlocks hxt hK hX hP hS zO_0 rfl rfl (c_X6_needPrices l hlt D k a hj  S _ X hm _) (cwV 0 hts gX6_reduced_X6_needPrices rfl rfl rfl (by decide +kernel) ⟨Nat.le_of_ble_eq_true rfl, Nat.le_of_ble_eq_true rfl⟩) rfl hl.1 rfl (Nat.le_of_ble_eq_true rfl) dX6_reduced_1 ⟨Nat.le_of_ble_eq_true rfl, Nat.le_of_ble_eq_true rfl⟩ (Nat.le_of_ble_eq_true rfl) (Nat.le_of_ble_eq_true rfl) (fun S_1 H locs hm hP hS => ?_)
  refine lv_aload_n hx hb dX6_reduced_4 rfl (lv_at hl 0 rfl) ?_
  refine lv_iload_n hx hb dX6_reduced_5 rfl (lv_at hl 1 rfl) ?_
  refine z_xVv (As := [.int y1]) (rest := []) hF hlocks hxt hK hX hP hS zO_0 rfl rfl (c_X6_needColumn l hlt D k a hj y1 S_1 _ X hm _) (cwV 1 hts gX6_reduced_X6_needColumn rfl rfl rfl (by decide +kernel) ⟨Nat.le_of_ble_eq_true rfl, Nat.le_of_ble_eq_true rfl⟩) rfl hl.1 rfl (Nat.le_of_ble_eq_true rfl) dX6_reduced_6 ⟨Nat.le_of_ble_eq_true rfl, Nat.le_of_ble_eq_true rfl⟩ (Nat.le_of_ble_eq_true rfl) (Nat.le_of_ble_eq_true rfl) (fun S_6 H locs hm hP hS => ?_)
  refine lv_aload_n hx hb dX6_reduced_9 rfl (lv_at hl 0 rfl) ?_
  refine zg_6_whole hx hb hts i6 hown hK hP (hts _ (List.mem_of_getElem? (i := 1) rfl)) dX6_reduced_10 ?_
  refine zg_5_cost hx hb hts i5 hown hK hP (hts _ (List.mem_of_getElem? (i := 2) rfl)) dX6_reduced_13 ?_
  refine lv_iload_n hx hb dX6_reduced_16 rfl (lv_at hl 1 rfl) ?_
  obtain ⟨h_17, hm⟩ := hm
  refine z_iald hx hb hK hP zI_10 h_17 dX6_reduced_17 ?_
  refine lv_topi (fun x2_18 ex2_18 => ?_)
  have hm := hm x2_18 ex2_18
  refine lv_istore_n (lv' := [(2, .int x2_18), (0, .ref (a 0)), (1, .int y1)]) hx hb dX6_reduced_18 rfl hl (by decide) rfl (fun ls hl => ?_)
  refine lv_iconst (v := (0 : Int32)) hx hb dX6_reduced_19 (by decide) ?_
  refine lv_istore_n (lv' := [(3, .int (0 : Int32)), (2, .int x2_18), (0, .ref (a 0)), (1, .int y1)]) hx hb dX6_reduced_20 rfl hl (by decide) rfl (fun ls hl => ?_)
  obtain ⟨n21, hm⟩ := hm
  exact L21 y1 n21 x2_18 (0 : Int32) S_6 _ _ _ hm hP hS (lv_sub hl [2, 3, 1, 0] rfl)

abbrev rm_X6_needNoPoint : Room := { frames := 6, cells := 1, slots := 6, locals := 90 }
def X6_needNoPoint (S : ZS) (Q : ZS → Prop) (X : String → ZS → Prop) : Prop :=
  ((S.1 0 7) = (3 : Int32) → Q S) ∧ (¬ (S.1 0 7) = (3 : Int32) → X "java/lang/IllegalStateException" S)
set_option maxHeartbeats 4000000 in
set_option maxRecDepth 100000 in
theorem c_X6_needNoPoint (l : Launch) (hlt : l.stackTraces = false) (D : va_G) (k : Nat → ClassId) (a : Nat → Nat) (hj : zDj a) (S : ZS) (Q : ZS → Prop) (X : String → ZS → Prop) (hm : X6_needNoPoint S Q X) (sz : Nat) : vx_Met l yX6_needNoPoint wsX6_needNoPoint rm_X6_needNoPoint (zPcX D k a [.ref (a 0)] S sz) (va_Qv Q (zB D k a) (zA a sz)) (zXC D k a X sz) 1 6 (zA a sz) := by
  refine vx_ofW (cc := cX6_needNoPoint) (maxL := 1) (ret := none) (by decide) rfl ?_
  intro p e s m args below meth c s₁ B hml hxt hv
  obtain ⟨rfl, hsz, hP, hK, hX⟩ := hv
  have hx := B.exec
  have hb := B.bytes
  have hr := B.returns
  have hts := atoms_spec (ws := wsX6_needNoPoint) B.pre
  have hown : s.vm.findClass RX6 = some m.cls := findClass_of_methodNamed B.named
  have hlocks := B.notSynchronized
  subst hsz
  have hS : va_S (zA a s.heap.size) s.heap s.heap [] := va_S.rf
  have hF : CallFix p m c cX6_needNoPoint 1 s _ wsX6_needNoPoint RX6 := ⟨hx, hb, hml, hown, hts⟩
  have i6 : ∀ w ∈ wsX60, w ∈ wsX6_needNoPoint := fun _ h => (List.mem_cons_of_mem _ (List.mem_append_left _ (List.mem_append_right _ h)))
  have hl := lv_entry ([.ref (a 0)]) (n := 1) (Nat.le_of_ble_eq_true rfl)
  rw [lg_entry_eq]
  generalize (lg_sl ([.ref (a 0)]) ++ List.replicate (1 - (lg_sl ([.ref (a 0)])).length) Slot.unset).toArray = ls at hl ⊢
  have hl : lv_has ls 1 [(0, .ref (a 0))] := hl
  unfold X6_needNoPoint at hm
  refine lv_aload_n hx hb dX6_needNoPoint_0 rfl (lv_at hl 0 rfl) ?_
  refine zg_6_solved hx hb hts i6 hown hK hP (hts _ (List.mem_of_getElem? (i := 3) rfl)) dX6_needNoPoint_1 ?_
  refine lv_iconst (v := (3 : Int32)) hx hb dX6_needNoPoint_4 (by decide) ?_
  refine lv_icmp_eq (tgt := 18) hx hb dX6_needNoPoint_5 (by decide) (fun c_5 => ?_) (fun c_5 => ?_)
  · have hm := hm.1 c_5
    exact z_retvX hx hb hr hlocks hP hS (Nat.le_of_ble_eq_true rfl) (Nat.le_of_ble_eq_true rfl) hm dX6_needNoPoint_18
  · have hm := hm.2 c_5
    exact z_throw (text := "it was not solved that no point fits") hx hb hlt hlocks hxt hown hts (List.mem_of_getElem? (i := 1) rfl) (List.mem_of_getElem? (i := 2) rfl) (fun _ h => (List.mem_cons_of_mem _ (List.mem_append_right _ h))) zbw_66 (by decide +kernel) (by decide +kernel) zfit (by decide +kernel) hX hP hS (hl.1.trans hml.symm) dX6_needNoPoint_8 dX6_needNoPoint_11 dX6_needNoPoint_12 dX6_needNoPoint_14 dX6_needNoPoint_17 (Nat.le_of_ble_eq_true rfl) (Nat.le_of_ble_eq_true rfl) (Nat.le_of_ble_eq_true rfl) (Nat.le_of_ble_eq_true rfl) (Nat.le_of_ble_eq_true rfl) (Nat.le_of_ble_eq_true rfl) hm

abbrev rm_X6_proof : Room := { frames := 7, cells := 1, slots := 6, locals := 110 }
def X6_proof (S : ZS) (Q : Int32 → ZS → Prop) (X : String → ZS → Prop) : Prop :=
  X6_needNoPoint S (fun S_1 => Q (S_1.1 5 0) S_1) X
set_option maxHeartbeats 4000000 in
set_option maxRecDepth 100000 in
theorem c_X6_proof (l : Launch) (hlt : l.stackTraces = false) (D : va_G) (k : Nat → ClassId) (a : Nat → Nat) (hj : zDj a) (S : ZS) (Q : Int32 → ZS → Prop) (X : String → ZS → Prop) (hm : X6_proof S Q X) (sz : Nat) : vx_Met l yX6_proof wsX6_proof rm_X6_proof (zPcX D k a [.ref (a 0)] S sz) (va_Qi Q (zB D k a) (zA a sz)) (zXC D k a X sz) 1 6 (zA a sz) := by
  refine vx_ofW (cc := cX6_proof) (maxL := 1) (ret := (some .int)) (by decide) rfl ?_
  intro p e s m args below meth c s₁ B hml hxt hv
  obtain ⟨rfl, hsz, hP, hK, hX⟩ := hv
  have hx := B.exec
  have hb := B.bytes
  have hr := B.returns
  have hts := atoms_spec (ws := wsX6_proof) B.pre
  have hown : s.vm.findClass RX6 = some m.cls := findClass_of_methodNamed B.named
  have hlocks := B.notSynchronized
  subst hsz
  have hS : va_S (zA a s.heap.size) s.heap s.heap [] := va_S.rf
  have hF : CallFix p m c cX6_proof 1 s _ wsX6_proof RX6 := ⟨hx, hb, hml, hown, hts⟩
  have i3 : ∀ w ∈ wsX30, w ∈ wsX6_proof := fun _ h => (List.mem_cons_of_mem _ (List.mem_append_left _ (List.mem_append_right _ h)))
  have i6 : ∀ w ∈ wsX60, w ∈ wsX6_proof := fun _ h => (List.mem_cons_of_mem _ (List.mem_append_left _ (List.mem_append_left _ (List.mem_append_right _ h))))
  have hl := lv_entry ([.ref (a 0)]) (n := 1) (Nat.le_of_ble_eq_true rfl)
  rw [lg_entry_eq]
  generalize (lg_sl ([.ref (a 0)]) ++ List.replicate (1 - (lg_sl ([.ref (a 0)])).length) Slot.unset).toArray = ls at hl ⊢
  have hl : lv_has ls 1 [(0, .ref (a 0))] := hl
  unfold X6_proof at hm
  refine lv_aload_n hx hb dX6_proof_0 rfl (lv_at hl 0 rfl) ?_
  refine z_xVv (As := []) (rest := []) hF hlocks hxt hK hX hP hS zO_0 rfl rfl (c_X6_needNoPoint l hlt D k a hj  S _ X hm _) (cwV 0 hts gX6_proof_X6_needNoPoint rfl rfl rfl (by decide +kernel) ⟨Nat.le_of_ble_eq_true rfl, Nat.le_of_ble_eq_true rfl⟩) rfl hl.1 rfl (Nat.le_of_ble_eq_true rfl) dX6_proof_1 ⟨Nat.le_of_ble_eq_true rfl, Nat.le_of_ble_eq_true rfl⟩ (Nat.le_of_ble_eq_true rfl) (Nat.le_of_ble_eq_true rfl) (fun S_1 H locs hm hP hS => ?_)
  refine lv_aload_n hx hb dX6_proof_4 rfl (lv_at hl 0 rfl) ?_
  refine zg_6_noPoint hx hb hts i6 hown hK hP (hts _ (List.mem_of_getElem? (i := 1) rfl)) dX6_proof_5 ?_
  refine zg_3_rowSet hx hb hts i3 hown hK hP (hts _ (List.mem_of_getElem? (i := 2) rfl)) dX6_proof_8 ?_
  exact z_retiX hx hb hr hlocks hP hS (Nat.le_of_ble_eq_true rfl) (Nat.le_of_ble_eq_true rfl) hm dX6_proof_11

abbrev rm_X6_side : Room := { frames := 7, cells := 1, slots := 6, locals := 110 }
def X6_side (S : ZS) (Q : Int32 → ZS → Prop) (X : String → ZS → Prop) : Prop :=
  X6_needNoPoint S (fun S_1 => Q (S_1.1 5 1) S_1) X
set_option maxHeartbeats 4000000 in
set_option maxRecDepth 100000 in
theorem c_X6_side (l : Launch) (hlt : l.stackTraces = false) (D : va_G) (k : Nat → ClassId) (a : Nat → Nat) (hj : zDj a) (S : ZS) (Q : Int32 → ZS → Prop) (X : String → ZS → Prop) (hm : X6_side S Q X) (sz : Nat) : vx_Met l yX6_side wsX6_side rm_X6_side (zPcX D k a [.ref (a 0)] S sz) (va_Qi Q (zB D k a) (zA a sz)) (zXC D k a X sz) 1 6 (zA a sz) := by
  refine vx_ofW (cc := cX6_side) (maxL := 1) (ret := (some .int)) (by decide) rfl ?_
  intro p e s m args below meth c s₁ B hml hxt hv
  obtain ⟨rfl, hsz, hP, hK, hX⟩ := hv
  have hx := B.exec
  have hb := B.bytes
  have hr := B.returns
  have hts := atoms_spec (ws := wsX6_side) B.pre
  have hown : s.vm.findClass RX6 = some m.cls := findClass_of_methodNamed B.named
  have hlocks := B.notSynchronized
  subst hsz
  have hS : va_S (zA a s.heap.size) s.heap s.heap [] := va_S.rf
  have hF : CallFix p m c cX6_side 1 s _ wsX6_side RX6 := ⟨hx, hb, hml, hown, hts⟩
  have i3 : ∀ w ∈ wsX30, w ∈ wsX6_side := fun _ h => (List.mem_cons_of_mem _ (List.mem_append_left _ (List.mem_append_right _ h)))
  have i6 : ∀ w ∈ wsX60, w ∈ wsX6_side := fun _ h => (List.mem_cons_of_mem _ (List.mem_append_left _ (List.mem_append_left _ (List.mem_append_right _ h))))
  have hl := lv_entry ([.ref (a 0)]) (n := 1) (Nat.le_of_ble_eq_true rfl)
  rw [lg_entry_eq]
  generalize (lg_sl ([.ref (a 0)]) ++ List.replicate (1 - (lg_sl ([.ref (a 0)])).length) Slot.unset).toArray = ls at hl ⊢
  have hl : lv_has ls 1 [(0, .ref (a 0))] := hl
  unfold X6_side at hm
  refine lv_aload_n hx hb dX6_side_0 rfl (lv_at hl 0 rfl) ?_
  refine z_xVv (As := []) (rest := []) hF hlocks hxt hK hX hP hS zO_0 rfl rfl (c_X6_needNoPoint l hlt D k a hj  S _ X hm _) (cwV 0 hts gX6_side_X6_needNoPoint rfl rfl rfl (by decide +kernel) ⟨Nat.le_of_ble_eq_true rfl, Nat.le_of_ble_eq_true rfl⟩) rfl hl.1 rfl (Nat.le_of_ble_eq_true rfl) dX6_side_1 ⟨Nat.le_of_ble_eq_true rfl, Nat.le_of_ble_eq_true rfl⟩ (Nat.le_of_ble_eq_true rfl) (Nat.le_of_ble_eq_true rfl) (fun S_1 H locs hm hP hS => ?_)
  refine lv_aload_n hx hb dX6_side_4 rfl (lv_at hl 0 rfl) ?_
  refine zg_6_noPoint hx hb hts i6 hown hK hP (hts _ (List.mem_of_getElem? (i := 1) rfl)) dX6_side_5 ?_
  refine zg_3_ofSide hx hb hts i3 hown hK hP (hts _ (List.mem_of_getElem? (i := 2) rfl)) dX6_side_8 ?_
  exact z_retiX hx hb hr hlocks hP hS (Nat.le_of_ble_eq_true rfl) (Nat.le_of_ble_eq_true rfl) hm dX6_side_11
