abbrev rm_X7_cost : Room := { frames := 2, cells := 0, slots := 0, locals := 46 }
def X7_cost_b33 (x1 : Int32) (x2 : Int32) (t0 : Int32) (t1 : Int32) (S : ZS) (Q : Int32 → ZS → Prop) : Prop :=
  X7_passes t1 t0 S (fun r_33 S_33 => (r_33 = 0 → Q (0 : Int32) S_33) ∧ (¬ r_33 = 0 → vp_in x1 10 ∧ ∀ x3_47 : Int32, x3_47 = (S_33.1 64 (x1).toNatClampNeg) → vp_in x1 10 ∧ ∀ S_54 : ZS, S_54 = zu S_33 64 (x1).toNatClampNeg x2 → ∀ S_57 : ZS, S_57 = zu S_54 61 9 (-1 : Int32) → Q x3_47 S_57))
def X7_cost_b14 (x1 : Int32) (x2 : Int32) (t0 : Int32) (S : ZS) (Q : Int32 → ZS → Prop) : Prop :=
  X7_within (Int32.toInt64 x2) (-1000 : Int64) (1000 : Int64) S (fun r_22 S_22 => (r_22 = 0 → X7_cost_b33 x1 x2 (1 : Int32) t0 S_22 Q) ∧ (¬ r_22 = 0 → X7_cost_b33 x1 x2 (0 : Int32) t0 S_22 Q))
def X7_cost (y1 : Int32) (y2 : Int32) (S : ZS) (Q : Int32 → ZS → Prop) : Prop :=
  X7_isColumn y1 S (fun r_3 S_3 => (r_3 = 0 → X7_cost_b14 y1 y2 (1 : Int32) S_3 Q) ∧ (¬ r_3 = 0 → X7_cost_b14 y1 y2 (0 : Int32) S_3 Q))
set_option maxHeartbeats 4000000 in
set_option maxRecDepth 100000 in
theorem c_X7_cost (l : Launch) (D : va_G) (k : Nat → ClassId) (a : Nat → Nat) (hj : zDj a) (y1 : Int32) (y2 : Int32) (S : ZS) (Q : Int32 → ZS → Prop) (hm : X7_cost y1 y2 S Q) (sz : Nat) : Met l yX7_cost wsX7_cost rm_X7_cost (zPc D k a [.ref (a 61), .int y1, .int y2] S sz) (va_Qi Q (zB D k a) (zA a sz)) 0 0 (zA a sz) := by
  refine Met.ofW (cc := cX7_cost) (maxL := 4) (ret := (some .int)) (by decide) rfl ?_
  intro p e s m args below meth c s₁ B hml hv
  obtain ⟨rfl, hsz, hP, hK⟩ := hv
  have hx := B.exec
  have hb := B.bytes
  have hr := B.returns
  have hts := atoms_spec (ws := wsX7_cost) B.pre
  have hown : s.vm.findClass RX7 = some m.cls := findClass_of_methodNamed B.named
  have hlocks := B.notSynchronized
  subst hsz
  have hS : va_S (zA a s.heap.size) s.heap s.heap [] := va_S.rf
  have hF : CallFix p m c cX7_cost 4 s _ wsX7_cost RX7 := ⟨hx, hb, hml, hown, hts⟩
  have i7 : ∀ w ∈ wsX70, w ∈ wsX7_cost := fun _ h => (List.mem_cons_of_mem _ (List.mem_append_right _ h))
  have hl := lv_entry ([.ref (a 61), .int y1, .int y2]) (n := 4) (Nat.le_of_ble_eq_true rfl)
  rw [lg_entry_eq]
  generalize (lg_sl ([.ref (a 61), .int y1, .int y2]) ++ List.replicate (4 - (lg_sl ([.ref (a 61), .int y1, .int y2])).length) Slot.unset).toArray = ls at hl ⊢
  have hl : lv_has ls 4 [(0, .ref (a 61)), (1, .int y1), (2, .int y2)] := hl
  have b14 : ∀ (x1 : Int32) (x2 : Int32) (t0 : Int32) (S : ZS) (H : Heap) (locs : List Loc) (ls : Array Slot), X7_cost_b14 x1 x2 t0 S Q → va_P D vwCl (zWS k a S) H → va_S (zA a s.heap.size) s.heap H locs → lv_has ls 4 [(0, .ref (a 61)), (1, .int x1), (2, .int x2)] → zWi p l e (headSpec wsX7_cost rm_X7_cost).room s m ([.ref (a 61), .int y1, .int y2] : List Value) below meth c D k a Q H locs (F0 m 14 ls [.int t0, .ref (a 61)]) := by
    intro x1 x2 t0 S H locs ls hm hP hS hl
    unfold X7_cost_b14 at hm
    have b33 : ∀ (x1 : Int32) (x2 : Int32) (t0 : Int32) (t1 : Int32) (S : ZS) (H : Heap) (locs : List Loc) (ls : Array Slot), X7_cost_b33 x1 x2 t0 t1 S Q → va_P D vwCl (zWS k a S) H → va_S (zA a s.heap.size) s.heap H locs → lv_has ls 4 [(0, .ref (a 61)), (1, .int x1), (2, .int x2)] → zWi p l e (headSpec wsX7_cost rm_X7_cost).room s m ([.ref (a 61), .int y1, .int y2] : List Value) below meth c D k a Q H locs (F0 m 33 ls [.int t0, .int t1, .ref (a 61)]) := by
      intro x1 x2 t0 t1 S H locs ls hm hP hS hl
      unfold X7_cost_b33 at hm
      refine z_cVi (As := [.int t1, .int t0]) (rest := []) hF hK hP hS zO_61 rfl rfl (c_X7_passes l D k a hj t1 t0 S _ hm _) (cwV 2 hts gX7_cost_X7_passes rfl rfl rfl (by decide +kernel) ⟨Nat.le_of_ble_eq_true rfl, Nat.le_of_ble_eq_true rfl⟩) rfl hl.1 rfl (Nat.le_of_ble_eq_true rfl) dX7_cost_33 ⟨Nat.zero_le _, Nat.zero_le _⟩ (fun r_33 S_33 H locs hm hP hS => ?_)
      refine lv_if_ne (tgt := 41) hx hb dX7_cost_36 (by decide) (fun c_36 => ?_) (fun c_36 => ?_)
      · have hm := hm.2 c_36
        refine lv_aload_n hx hb dX7_cost_41 rfl (lv_at hl 0 rfl) ?_
        refine zg_7_costs hx hb hts i7 hown hK hP (hts _ (List.mem_of_getElem? (i := 3) rfl)) dX7_cost_42 ?_
        refine lv_iload_n hx hb dX7_cost_45 rfl (lv_at hl 1 rfl) ?_
        obtain ⟨h_46, hm⟩ := hm
        refine z_iald hx hb hK hP zI_64 h_46 dX7_cost_46 ?_
        refine lv_topi (fun x3_47 ex3_47 => ?_)
        have hm := hm x3_47 ex3_47
        refine lv_istore_n (lv' := [(3, .int x3_47), (0, .ref (a 61)), (1, .int x1), (2, .int x2)]) hx hb dX7_cost_47 rfl hl (by decide) rfl (fun ls hl => ?_)
        refine lv_aload_n hx hb dX7_cost_48 rfl (lv_at hl 1 rfl) ?_
        refine zg_7_costs hx hb hts i7 hown hK hP (hts _ (List.mem_of_getElem? (i := 3) rfl)) dX7_cost_49 ?_
        refine lv_iload_n hx hb dX7_cost_52 rfl (lv_at hl 2 rfl) ?_
        refine lv_iload_n hx hb dX7_cost_53 rfl (lv_at hl 3 rfl) ?_
        obtain ⟨h_54, hm⟩ := hm
        refine z_iast hx hb hj hK hP hS zI_64 h_54 dX7_cost_54 (fun H locs hP hS => ?_)
        obtain ⟨S_54, eS_54⟩ : ∃ z : ZS, z = zu S_33 64 (x1).toNatClampNeg x2 := ⟨_, rfl⟩
        rw [← eS_54] at hP
        have hm := hm S_54 eS_54
        refine lv_aload_n hx hb dX7_cost_55 rfl (lv_at hl 1 rfl) ?_
        refine lv_iconst (v := (-1 : Int32)) hx hb dX7_cost_56 (by decide) ?_
        refine zp_7_solved hx hb hts i7 hown hj hK hP hS (hts _ (List.mem_of_getElem? (i := 4) rfl)) dX7_cost_57 (fun H locs hP hS => ?_)
        obtain ⟨S_57, eS_57⟩ : ∃ z : ZS, z = zu S_54 61 9 (-1 : Int32) := ⟨_, rfl⟩
        rw [← eS_57] at hP
        have hm := hm S_57 eS_57
        refine lv_iload_n hx hb dX7_cost_60 rfl (lv_at hl 0 rfl) ?_
        exact z_reti hx hb hr hlocks hP hS hm dX7_cost_61
      · have hm := hm.1 c_36
        refine lv_iconst (v := (0 : Int32)) hx hb dX7_cost_39 (by decide) ?_
        exact z_reti hx hb hr hlocks hP hS hm dX7_cost_40
    refine lv_iload_n hx hb dX7_cost_14 rfl (lv_at hl 2 rfl) ?_
    refine lv_i2l hx hb dX7_cost_15 rfl ?_
    refine lv_ldc2 (v := (-1000 : Int64)) hx hb hown (hts _ (List.mem_of_getElem? (i := 1) rfl)) dX7_cost_16 ?_
    refine lv_ldc2 (v := (1000 : Int64)) hx hb hown (hts _ (List.mem_of_getElem? (i := 2) rfl)) dX7_cost_19 ?_
    refine z_cSi (As := [.long (Int32.toInt64 x2), .long (-1000 : Int64), .long (1000 : Int64)]) (rest := [.int t0, .ref (a 61)]) hF hK hP hS (c_X7_within l D k a hj (Int32.toInt64 x2) (-1000 : Int64) (1000 : Int64) S _ hm _) (va_cwS 3 hts gX7_cost_X7_within rfl rfl rfl (by decide +kernel) ⟨Nat.le_of_ble_eq_true rfl, Nat.le_of_ble_eq_true rfl⟩) rfl hl.1 rfl (Nat.le_of_ble_eq_true rfl) dX7_cost_22 ⟨Nat.zero_le _, Nat.zero_le _⟩ (fun r_22 S_22 H locs hm hP hS => ?_)
    refine lv_if_ne (tgt := 32) hx hb dX7_cost_25 (by decide) (fun c_25 => ?_) (fun c_25 => ?_)
    · have hm := hm.2 c_25
      refine lv_iconst (v := (0 : Int32)) hx hb dX7_cost_32 (by decide) ?_
      exact b33 x1 x2 (0 : Int32) t0 S_22 _ _ _ hm hP hS (lv_sub hl [0, 1, 2] rfl)
    · have hm := hm.1 c_25
      refine lv_iconst (v := (1 : Int32)) hx hb dX7_cost_28 (by decide) ?_
      refine lv_goto (tgt := 33) hx hb dX7_cost_29 (by decide) ?_
      exact b33 x1 x2 (1 : Int32) t0 S_22 _ _ _ hm hP hS (lv_sub hl [0, 1, 2] rfl)
  unfold X7_cost at hm
  refine lv_aload_n hx hb dX7_cost_0 rfl (lv_at hl 0 rfl) ?_
  refine lv_aload_n hx hb dX7_cost_1 rfl (lv_at hl 0 rfl) ?_
  refine lv_iload_n hx hb dX7_cost_2 rfl (lv_at hl 1 rfl) ?_
  refine z_cVi (As := [.int y1]) (rest := [.ref (a 61)]) hF hK hP hS zO_61 rfl rfl (c_X7_isColumn l D k a hj y1 S _ hm _) (cwV 1 hts gX7_cost_X7_isColumn rfl rfl rfl (by decide +kernel) ⟨Nat.le_of_ble_eq_true rfl, Nat.le_of_ble_eq_true rfl⟩) rfl hl.1 rfl (Nat.le_of_ble_eq_true rfl) dX7_cost_3 ⟨Nat.zero_le _, Nat.zero_le _⟩ (fun r_3 S_3 H locs hm hP hS => ?_)
  refine lv_if_ne (tgt := 13) hx hb dX7_cost_6 (by decide) (fun c_6 => ?_) (fun c_6 => ?_)
  · have hm := hm.2 c_6
    refine lv_iconst (v := (0 : Int32)) hx hb dX7_cost_13 (by decide) ?_
    exact b14 y1 y2 (0 : Int32) S_3 _ _ _ hm hP hS (lv_sub hl [0, 1, 2] rfl)
  · have hm := hm.1 c_6
    refine lv_iconst (v := (1 : Int32)) hx hb dX7_cost_9 (by decide) ?_
    refine lv_goto (tgt := 14) hx hb dX7_cost_10 (by decide) ?_
    exact b14 y1 y2 (1 : Int32) S_3 _ _ _ hm hP hS (lv_sub hl [0, 1, 2] rfl)

abbrev rm_X7_right : Room := { frames := 2, cells := 0, slots := 0, locals := 46 }
def X7_right_b33 (x1 : Int32) (x2 : Int32) (t0 : Int32) (t1 : Int32) (S : ZS) (Q : Int32 → ZS → Prop) : Prop :=
  X7_passes t1 t0 S (fun r_33 S_33 => (r_33 = 0 → Q (0 : Int32) S_33) ∧ (¬ r_33 = 0 → vp_in x1 8 ∧ ∀ x3_47 : Int32, x3_47 = (S_33.1 66 (x1).toNatClampNeg) → vp_in x1 8 ∧ ∀ S_54 : ZS, S_54 = zu S_33 66 (x1).toNatClampNeg x2 → ∀ S_57 : ZS, S_57 = zu S_54 61 9 (-1 : Int32) → Q x3_47 S_57))
def X7_right_b14 (x1 : Int32) (x2 : Int32) (t0 : Int32) (S : ZS) (Q : Int32 → ZS → Prop) : Prop :=
  X7_within (Int32.toInt64 x2) (-100000 : Int64) (100000 : Int64) S (fun r_22 S_22 => (r_22 = 0 → X7_right_b33 x1 x2 (1 : Int32) t0 S_22 Q) ∧ (¬ r_22 = 0 → X7_right_b33 x1 x2 (0 : Int32) t0 S_22 Q))
def X7_right (y1 : Int32) (y2 : Int32) (S : ZS) (Q : Int32 → ZS → Prop) : Prop :=
  X7_isRow y1 S (fun r_3 S_3 => (r_3 = 0 → X7_right_b14 y1 y2 (1 : Int32) S_3 Q) ∧ (¬ r_3 = 0 → X7_right_b14 y1 y2 (0 : Int32) S_3 Q))
set_option maxHeartbeats 4000000 in
set_option maxRecDepth 100000 in
theorem c_X7_right (l : Launch) (D : va_G) (k : Nat → ClassId) (a : Nat → Nat) (hj : zDj a) (y1 : Int32) (y2 : Int32) (S : ZS) (Q : Int32 → ZS → Prop) (hm : X7_right y1 y2 S Q) (sz : Nat) : Met l yX7_right wsX7_right rm_X7_right (zPc D k a [.ref (a 61), .int y1, .int y2] S sz) (va_Qi Q (zB D k a) (zA a sz)) 0 0 (zA a sz) := by
  refine Met.ofW (cc := cX7_right) (maxL := 4) (ret := (some .int)) (by decide) rfl ?_
  intro p e s m args below meth c s₁ B hml hv
  obtain ⟨rfl, hsz, hP, hK⟩ := hv
  have hx := B.exec
  have hb := B.bytes
  have hr := B.returns
  have hts := atoms_spec (ws := wsX7_right) B.pre
  have hown : s.vm.findClass RX7 = some m.cls := findClass_of_methodNamed B.named
  have hlocks := B.notSynchronized
  subst hsz
  have hS : va_S (zA a s.heap.size) s.heap s.heap [] := va_S.rf
  have hF : CallFix p m c cX7_right 4 s _ wsX7_right RX7 := ⟨hx, hb, hml, hown, hts⟩
  have i7 : ∀ w ∈ wsX70, w ∈ wsX7_right := fun _ h => (List.mem_cons_of_mem _ (List.mem_append_right _ h))
  have hl := lv_entry ([.ref (a 61), .int y1, .int y2]) (n := 4) (Nat.le_of_ble_eq_true rfl)
  rw [lg_entry_eq]
  generalize (lg_sl ([.ref (a 61), .int y1, .int y2]) ++ List.replicate (4 - (lg_sl ([.ref (a 61), .int y1, .int y2])).length) Slot.unset).toArray = ls at hl ⊢
  have hl : lv_has ls 4 [(0, .ref (a 61)), (1, .int y1), (2, .int y2)] := hl
  have b14 : ∀ (x1 : Int32) (x2 : Int32) (t0 : Int32) (S : ZS) (H : Heap) (locs : List Loc) (ls : Array Slot), X7_right_b14 x1 x2 t0 S Q → va_P D vwCl (zWS k a S) H → va_S (zA a s.heap.size) s.heap H locs → lv_has ls 4 [(0, .ref (a 61)), (1, .int x1), (2, .int x2)] → zWi p l e (headSpec wsX7_right rm_X7_right).room s m ([.ref (a 61), .int y1, .int y2] : List Value) below meth c D k a Q H locs (F0 m 14 ls [.int t0, .ref (a 61)]) := by
    intro x1 x2 t0 S H locs ls hm hP hS hl
    unfold X7_right_b14 at hm
    have b33 : ∀ (x1 : Int32) (x2 : Int32) (t0 : Int32) (t1 : Int32) (S : ZS) (H : Heap) (locs : List Loc) (ls : Array Slot), X7_right_b33 x1 x2 t0 t1 S Q → va_P D vwCl (zWS k a S) H → va_S (zA a s.heap.size) s.heap H locs → lv_has ls 4 [(0, .ref (a 61)), (1, .int x1), (2, .int x2)] → zWi p l e (headSpec wsX7_right rm_X7_right).room s m ([.ref (a 61), .int y1, .int y2] : List Value) below meth c D k a Q H locs (F0 m 33 ls [.int t0, .int t1, .ref (a 61)]) := by
      intro x1 x2 t0 t1 S H locs ls hm hP hS hl
      unfold X7_right_b33 at hm
      refine z_cVi (As := [.int t1, .int t0]) (rest := []) hF hK hP hS zO_61 rfl rfl (c_X7_passes l D k a hj t1 t0 S _ hm _) (cwV 2 hts gX7_right_X7_passes rfl rfl rfl (by decide +kernel) ⟨Nat.le_of_ble_eq_true rfl, Nat.le_of_ble_eq_true rfl⟩) rfl hl.1 rfl (Nat.le_of_ble_eq_true rfl) dX7_right_33 ⟨Nat.zero_le _, Nat.zero_le _⟩ (fun r_33 S_33 H locs hm hP hS => ?_)
      refine lv_if_ne (tgt := 41) hx hb dX7_right_36 (by decide) (fun c_36 => ?_) (fun c_36 => ?_)
      · have hm := hm.2 c_36
        refine lv_aload_n hx hb dX7_right_41 rfl (lv_at hl 0 rfl) ?_
        refine zg_7_rights hx hb hts i7 hown hK hP (hts _ (List.mem_of_getElem? (i := 3) rfl)) dX7_right_42 ?_
        refine lv_iload_n hx hb dX7_right_45 rfl (lv_at hl 1 rfl) ?_
        obtain ⟨h_46, hm⟩ := hm
        refine z_iald hx hb hK hP zI_66 h_46 dX7_right_46 ?_
        refine lv_topi (fun x3_47 ex3_47 => ?_)
        have hm := hm x3_47 ex3_47
        refine lv_istore_n (lv' := [(3, .int x3_47), (0, .ref (a 61)), (1, .int x1), (2, .int x2)]) hx hb dX7_right_47 rfl hl (by decide) rfl (fun ls hl => ?_)
        refine lv_aload_n hx hb dX7_right_48 rfl (lv_at hl 1 rfl) ?_
        refine zg_7_rights hx hb hts i7 hown hK hP (hts _ (List.mem_of_getElem? (i := 3) rfl)) dX7_right_49 ?_
        refine lv_iload_n hx hb dX7_right_52 rfl (lv_at hl 2 rfl) ?_
        refine lv_iload_n hx hb dX7_right_53 rfl (lv_at hl 3 rfl) ?_
        obtain ⟨h_54, hm⟩ := hm
        refine z_iast hx hb hj hK hP hS zI_66 h_54 dX7_right_54 (fun H locs hP hS => ?_)
        obtain ⟨S_54, eS_54⟩ : ∃ z : ZS, z = zu S_33 66 (x1).toNatClampNeg x2 := ⟨_, rfl⟩
        rw [← eS_54] at hP
        have hm := hm S_54 eS_54
        refine lv_aload_n hx hb dX7_right_55 rfl (lv_at hl 1 rfl) ?_
        refine lv_iconst (v := (-1 : Int32)) hx hb dX7_right_56 (by decide) ?_
        refine zp_7_solved hx hb hts i7 hown hj hK hP hS (hts _ (List.mem_of_getElem? (i := 4) rfl)) dX7_right_57 (fun H locs hP hS => ?_)
        obtain ⟨S_57, eS_57⟩ : ∃ z : ZS, z = zu S_54 61 9 (-1 : Int32) := ⟨_, rfl⟩
        rw [← eS_57] at hP
        have hm := hm S_57 eS_57
        refine lv_iload_n hx hb dX7_right_60 rfl (lv_at hl 0 rfl) ?_
        exact z_reti hx hb hr hlocks hP hS hm dX7_right_61
      · have hm := hm.1 c_36
        refine lv_iconst (v := (0 : Int32)) hx hb dX7_right_39 (by decide) ?_
        exact z_reti hx hb hr hlocks hP hS hm dX7_right_40
    refine lv_iload_n hx hb dX7_right_14 rfl (lv_at hl 2 rfl) ?_
    refine lv_i2l hx hb dX7_right_15 rfl ?_
    refine lv_ldc2 (v := (-100000 : Int64)) hx hb hown (hts _ (List.mem_of_getElem? (i := 1) rfl)) dX7_right_16 ?_
    refine lv_ldc2 (v := (100000 : Int64)) hx hb hown (hts _ (List.mem_of_getElem? (i := 2) rfl)) dX7_right_19 ?_
    refine z_cSi (As := [.long (Int32.toInt64 x2), .long (-100000 : Int64), .long (100000 : Int64)]) (rest := [.int t0, .ref (a 61)]) hF hK hP hS (c_X7_within l D k a hj (Int32.toInt64 x2) (-100000 : Int64) (100000 : Int64) S _ hm _) (va_cwS 3 hts gX7_right_X7_within rfl rfl rfl (by decide +kernel) ⟨Nat.le_of_ble_eq_true rfl, Nat.le_of_ble_eq_true rfl⟩) rfl hl.1 rfl (Nat.le_of_ble_eq_true rfl) dX7_right_22 ⟨Nat.zero_le _, Nat.zero_le _⟩ (fun r_22 S_22 H locs hm hP hS => ?_)
    refine lv_if_ne (tgt := 32) hx hb dX7_right_25 (by decide) (fun c_25 => ?_) (fun c_25 => ?_)
    · have hm := hm.2 c_25
      refine lv_iconst (v := (0 : Int32)) hx hb dX7_right_32 (by decide) ?_
      exact b33 x1 x2 (0 : Int32) t0 S_22 _ _ _ hm hP hS (lv_sub hl [0, 1, 2] rfl)
    · have hm := hm.1 c_25
      refine lv_iconst (v := (1 : Int32)) hx hb dX7_right_28 (by decide) ?_
      refine lv_goto (tgt := 33) hx hb dX7_right_29 (by decide) ?_
      exact b33 x1 x2 (1 : Int32) t0 S_22 _ _ _ hm hP hS (lv_sub hl [0, 1, 2] rfl)
  unfold X7_right at hm
  refine lv_aload_n hx hb dX7_right_0 rfl (lv_at hl 0 rfl) ?_
  refine lv_aload_n hx hb dX7_right_1 rfl (lv_at hl 0 rfl) ?_
  refine lv_iload_n hx hb dX7_right_2 rfl (lv_at hl 1 rfl) ?_
  refine z_cVi (As := [.int y1]) (rest := [.ref (a 61)]) hF hK hP hS zO_61 rfl rfl (c_X7_isRow l D k a hj y1 S _ hm _) (cwV 1 hts gX7_right_X7_isRow rfl rfl rfl (by decide +kernel) ⟨Nat.le_of_ble_eq_true rfl, Nat.le_of_ble_eq_true rfl⟩) rfl hl.1 rfl (Nat.le_of_ble_eq_true rfl) dX7_right_3 ⟨Nat.zero_le _, Nat.zero_le _⟩ (fun r_3 S_3 H locs hm hP hS => ?_)
  refine lv_if_ne (tgt := 13) hx hb dX7_right_6 (by decide) (fun c_6 => ?_) (fun c_6 => ?_)
  · have hm := hm.2 c_6
    refine lv_iconst (v := (0 : Int32)) hx hb dX7_right_13 (by decide) ?_
    exact b14 y1 y2 (0 : Int32) S_3 _ _ _ hm hP hS (lv_sub hl [0, 1, 2] rfl)
  · have hm := hm.1 c_6
    refine lv_iconst (v := (1 : Int32)) hx hb dX7_right_9 (by decide) ?_
    refine lv_goto (tgt := 14) hx hb dX7_right_10 (by decide) ?_
    exact b14 y1 y2 (1 : Int32) S_3 _ _ _ hm hP hS (lv_sub hl [0, 1, 2] rfl)

abbrev rm_X7_clear : Room := { frames := 0, cells := 0, slots := 0, locals := 0 }
def X7_clear (S : ZS) (Q : Int32 → ZS → Prop) : Prop :=
  ∀ S_2 : ZS, S_2 = zu S 61 0 (0 : Int32) → ∀ x1_9 : Int32, x1_9 = (S_2.1 61 1) → ∀ S_12 : ZS, S_12 = zu S_2 61 1 (0 : Int32) → ∀ S_17 : ZS, S_17 = zu S_12 61 2 (0 : Int32) → ∀ S_22 : ZS, S_22 = zu S_17 61 9 (-1 : Int32) → Q x1_9 S_22
set_option maxHeartbeats 4000000 in
set_option maxRecDepth 100000 in
theorem c_X7_clear (l : Launch) (D : va_G) (k : Nat → ClassId) (a : Nat → Nat) (hj : zDj a) (S : ZS) (Q : Int32 → ZS → Prop) (hm : X7_clear S Q) (sz : Nat) : Met l yX7_clear wsX7_clear rm_X7_clear (zPc D k a [.ref (a 61)] S sz) (va_Qi Q (zB D k a) (zA a sz)) 0 0 (zA a sz) := by
  refine Met.ofW (cc := cX7_clear) (maxL := 2) (ret := (some .int)) (by decide) rfl ?_
  intro p e s m args below meth c s₁ B hml hv
  obtain ⟨rfl, hsz, hP, hK⟩ := hv
  have hx := B.exec
  have hb := B.bytes
  have hr := B.returns
  have hts := atoms_spec (ws := wsX7_clear) B.pre
  have hown : s.vm.findClass RX7 = some m.cls := findClass_of_methodNamed B.named
  have hlocks := B.notSynchronized
  subst hsz
  have hS : va_S (zA a s.heap.size) s.heap s.heap [] := va_S.rf
  have hF : CallFix p m c cX7_clear 2 s _ wsX7_clear RX7 := ⟨hx, hb, hml, hown, hts⟩
  have i7 : ∀ w ∈ wsX70, w ∈ wsX7_clear := fun _ h => (List.mem_cons_of_mem _ (List.mem_append_right _ h))
  have hl := lv_entry ([.ref (a 61)]) (n := 2) (Nat.le_of_ble_eq_true rfl)
  rw [lg_entry_eq]
  generalize (lg_sl ([.ref (a 61)]) ++ List.replicate (2 - (lg_sl ([.ref (a 61)])).length) Slot.unset).toArray = ls at hl ⊢
  have hl : lv_has ls 2 [(0, .ref (a 61))] := hl
  unfold X7_clear at hm
  refine lv_aload_n hx hb dX7_clear_0 rfl (lv_at hl 0 rfl) ?_
  refine lv_iconst (v := (0 : Int32)) hx hb dX7_clear_1 (by decide) ?_
  refine zp_7_thrown hx hb hts i7 hown hj hK hP hS (hts _ (List.mem_of_getElem? (i := 1) rfl)) dX7_clear_2 (fun H locs hP hS => ?_)
  obtain ⟨S_2, eS_2⟩ : ∃ z : ZS, z = zu S 61 0 (0 : Int32) := ⟨_, rfl⟩
  rw [← eS_2] at hP
  have hm := hm S_2 eS_2
  refine lv_aload_n hx hb dX7_clear_5 rfl (lv_at hl 0 rfl) ?_
  refine zg_7_columns hx hb hts i7 hown hK hP (hts _ (List.mem_of_getElem? (i := 2) rfl)) dX7_clear_6 ?_
  refine lv_topi (fun x1_9 ex1_9 => ?_)
  have hm := hm x1_9 ex1_9
  refine lv_istore_n (lv' := [(1, .int x1_9), (0, .ref (a 61))]) hx hb dX7_clear_9 rfl hl (by decide) rfl (fun ls hl => ?_)
  refine lv_aload_n hx hb dX7_clear_10 rfl (lv_at hl 1 rfl) ?_
  refine lv_iconst (v := (0 : Int32)) hx hb dX7_clear_11 (by decide) ?_
  refine zp_7_columns hx hb hts i7 hown hj hK hP hS (hts _ (List.mem_of_getElem? (i := 2) rfl)) dX7_clear_12 (fun H locs hP hS => ?_)
  obtain ⟨S_12, eS_12⟩ : ∃ z : ZS, z = zu S_2 61 1 (0 : Int32) := ⟨_, rfl⟩
  rw [← eS_12] at hP
  have hm := hm S_12 eS_12
  refine lv_aload_n hx hb dX7_clear_15 rfl (lv_at hl 1 rfl) ?_
  refine lv_iconst (v := (0 : Int32)) hx hb dX7_clear_16 (by decide) ?_
  refine zp_7_rows hx hb hts i7 hown hj hK hP hS (hts _ (List.mem_of_getElem? (i := 3) rfl)) dX7_clear_17 (fun H locs hP hS => ?_)
  obtain ⟨S_17, eS_17⟩ : ∃ z : ZS, z = zu S_12 61 2 (0 : Int32) := ⟨_, rfl⟩
  rw [← eS_17] at hP
  have hm := hm S_17 eS_17
  refine lv_aload_n hx hb dX7_clear_20 rfl (lv_at hl 1 rfl) ?_
  refine lv_iconst (v := (-1 : Int32)) hx hb dX7_clear_21 (by decide) ?_
  refine zp_7_solved hx hb hts i7 hown hj hK hP hS (hts _ (List.mem_of_getElem? (i := 4) rfl)) dX7_clear_22 (fun H locs hP hS => ?_)
  obtain ⟨S_22, eS_22⟩ : ∃ z : ZS, z = zu S_17 61 9 (-1 : Int32) := ⟨_, rfl⟩
  rw [← eS_22] at hP
  have hm := hm S_22 eS_22
  refine lv_iload_n hx hb dX7_clear_25 rfl (lv_at hl 0 rfl) ?_
  exact z_reti hx hb hr hlocks hP hS hm dX7_clear_26

abbrev rm_X7_coef : Room := { frames := 0, cells := 0, slots := 0, locals := 0 }
def X7_coef (y1 : Int32) (y2 : Int32) (S : ZS) (Q : Int32 → ZS → Prop) : Prop :=
  vp_in (((10 : Int32) * y1) + y2) 80 ∧ Q (S.1 67 ((((10 : Int32) * y1) + y2)).toNatClampNeg) S
set_option maxHeartbeats 4000000 in
set_option maxRecDepth 100000 in
theorem c_X7_coef (l : Launch) (D : va_G) (k : Nat → ClassId) (a : Nat → Nat) (hj : zDj a) (y1 : Int32) (y2 : Int32) (S : ZS) (Q : Int32 → ZS → Prop) (hm : X7_coef y1 y2 S Q) (sz : Nat) : Met l yX7_coef wsX7_coef rm_X7_coef (zPc D k a [.ref (a 61), .int y1, .int y2] S sz) (va_Qi Q (zB D k a) (zA a sz)) 0 0 (zA a sz) := by
  refine Met.ofW (cc := cX7_coef) (maxL := 3) (ret := (some .int)) (by decide) rfl ?_
  intro p e s m args below meth c s₁ B hml hv
  obtain ⟨rfl, hsz, hP, hK⟩ := hv
  have hx := B.exec
  have hb := B.bytes
  have hr := B.returns
  have hts := atoms_spec (ws := wsX7_coef) B.pre
  have hown : s.vm.findClass RX7 = some m.cls := findClass_of_methodNamed B.named
  have hlocks := B.notSynchronized
  subst hsz
  have hS : va_S (zA a s.heap.size) s.heap s.heap [] := va_S.rf
  have hF : CallFix p m c cX7_coef 3 s _ wsX7_coef RX7 := ⟨hx, hb, hml, hown, hts⟩
  have i7 : ∀ w ∈ wsX70, w ∈ wsX7_coef := fun _ h => (List.mem_cons_of_mem _ (List.mem_append_right _ h))
  have hl := lv_entry ([.ref (a 61), .int y1, .int y2]) (n := 3) (Nat.le_of_ble_eq_true rfl)
  rw [lg_entry_eq]
  generalize (lg_sl ([.ref (a 61), .int y1, .int y2]) ++ List.replicate (3 - (lg_sl ([.ref (a 61), .int y1, .int y2])).length) Slot.unset).toArray = ls at hl ⊢
  have hl : lv_has ls 3 [(0, .ref (a 61)), (1, .int y1), (2, .int y2)] := hl
  unfold X7_coef at hm
  refine lv_aload_n hx hb dX7_coef_0 rfl (lv_at hl 0 rfl) ?_
  refine zg_7_coefs hx hb hts i7 hown hK hP (hts _ (List.mem_of_getElem? (i := 1) rfl)) dX7_coef_1 ?_
  refine lv_bipush (v := (10 : Int32)) hx hb dX7_coef_4 (by decide) ?_
  refine lv_iload_n hx hb dX7_coef_6 rfl (lv_at hl 1 rfl) ?_
  refine lv_imul hx hb dX7_coef_7 ?_
  refine lv_iload_n hx hb dX7_coef_8 rfl (lv_at hl 2 rfl) ?_
  refine lv_iadd hx hb dX7_coef_9 ?_
  obtain ⟨h_10, hm⟩ := hm
  refine z_iald hx hb hK hP zI_67 h_10 dX7_coef_10 ?_
  exact z_reti hx hb hr hlocks hP hS hm dX7_coef_11

abbrev rm_X7_joinRows : Room := { frames := 1, cells := 0, slots := 0, locals := 22 }
def X7_joinRows_b90 (S : ZS) (Q : ZS → Prop) : Prop :=
  Q S
def X7_joinRows_b83 (x1 : Int32) (x2 : Int32) (x3 : Int32) (t0 : Int32) (t1 : Int32) (S : ZS) (Q : ZS → Prop) (k51 : Int32 × ZS → Prop) : Prop :=
  vp_in t1 8 ∧ ∀ S_83 : ZS, S_83 = zu S 70 (t1).toNatClampNeg t0 → ∀ x3_84 : Int32, x3_84 = x3 + (1 : Int32) → k51 (x3_84, S_83)
def X7_joinRows_B51 (x1 : Int32) (x2 : Int32) (x3 : Int32) (S : ZS) (Q : ZS → Prop) (k51 : Int32 × ZS → Prop) : Prop :=
  ((S.1 61 2) ≤ x3 → X7_joinRows_b90 S Q) ∧ (¬ (S.1 61 2) ≤ x3 → X7_coef x3 x1 S (fun r_67 S_67 => (r_67 = 0 → vp_in x3 8 ∧ X7_joinRows_b83 x1 x2 x3 (S_67.1 70 (x3).toNatClampNeg) x3 S_67 Q k51) ∧ (¬ r_67 = 0 → X7_joinRows_b83 x1 x2 x3 x2 x3 S_67 Q k51)))
def X7_joinRows_L51 (x1 : Int32) (x2 : Int32) (Q : ZS → Prop) : (Int32 × ZS) → ((Int32 × ZS) → Prop) → Prop := fun st k51 => X7_joinRows_B51 x1 x2 st.1 st.2 Q k51
def X7_joinRows_b49 (x1 : Int32) (x2 : Int32) (S : ZS) (Q : ZS → Prop) : Prop :=
  zl (X7_joinRows_L51 x1 x2 Q) ((0 : Int32), S)
def X7_joinRows_b42 (x1 : Int32) (x3 : Int32) (t0 : Int32) (S : ZS) (Q : ZS → Prop) (k5 : Int32 × Int32 × ZS → Prop) : Prop :=
  ∀ x3_43 : Int32, x3_43 = x3 + (1 : Int32) → k5 (t0, x3_43, S)
def X7_joinRows_b41 (x1 : Int32) (x2 : Int32) (x3 : Int32) (S : ZS) (Q : ZS → Prop) (k5 : Int32 × Int32 × ZS → Prop) : Prop :=
  X7_joinRows_b42 x1 x3 x2 S Q k5
def X7_joinRows_B5 (x1 : Int32) (x2 : Int32) (x3 : Int32) (S : ZS) (Q : ZS → Prop) (k5 : Int32 × Int32 × ZS → Prop) : Prop :=
  ((S.1 61 2) ≤ x3 → X7_joinRows_b49 x1 x2 S Q) ∧ (¬ (S.1 61 2) ≤ x3 → X7_coef x3 x1 S (fun r_16 S_16 => (r_16 = 0 → X7_joinRows_b41 x1 x2 x3 S_16 Q k5) ∧ (¬ r_16 = 0 → vp_in x3 8 ∧ (x2 ≤ (S_16.1 70 (x3).toNatClampNeg) → X7_joinRows_b41 x1 x2 x3 S_16 Q k5) ∧ (¬ x2 ≤ (S_16.1 70 (x3).toNatClampNeg) → vp_in x3 8 ∧ X7_joinRows_b42 x1 x3 (S_16.1 70 (x3).toNatClampNeg) S_16 Q k5))))
def X7_joinRows_L5 (x1 : Int32) (Q : ZS → Prop) : (Int32 × Int32 × ZS) → ((Int32 × Int32 × ZS) → Prop) → Prop := fun st k5 => X7_joinRows_B5 x1 st.1 st.2.1 st.2.2 Q k5
def X7_joinRows (y1 : Int32) (S : ZS) (Q : ZS → Prop) : Prop :=
  zl (X7_joinRows_L5 y1 Q) ((8 : Int32), (0 : Int32), S)
set_option maxHeartbeats 4000000 in
set_option maxRecDepth 100000 in
theorem c_X7_joinRows (l : Launch) (D : va_G) (k : Nat → ClassId) (a : Nat → Nat) (hj : zDj a) (y1 : Int32) (S : ZS) (Q : ZS → Prop) (hm : X7_joinRows y1 S Q) (sz : Nat) : Met l yX7_joinRows wsX7_joinRows rm_X7_joinRows (zPc D k a [.ref (a 61), .int y1] S sz) (va_Qv Q (zB D k a) (zA a sz)) 0 0 (zA a sz) := by
  refine Met.ofW (cc := cX7_joinRows) (maxL := 4) (ret := none) (by decide) rfl ?_
  intro p e s m args below meth c s₁ B hml hv
  obtain ⟨rfl, hsz, hP, hK⟩ := hv
  have hx := B.exec
  have hb := B.bytes
  have hr := B.returns
  have hts := atoms_spec (ws := wsX7_joinRows) B.pre
  have hown : s.vm.findClass RX7 = some m.cls := findClass_of_methodNamed B.named
  have hlocks := B.notSynchronized
  subst hsz
  have hS : va_S (zA a s.heap.size) s.heap s.heap [] := va_S.rf
  have hF : CallFix p m c cX7_joinRows 4 s _ wsX7_joinRows RX7 := ⟨hx, hb, hml, hown, hts⟩
  have i7 : ∀ w ∈ wsX70, w ∈ wsX7_joinRows := fun _ h => (List.mem_cons_of_mem _ (List.mem_append_right _ h))
  have hl := lv_entry ([.ref (a 61), .int y1]) (n := 4) (Nat.le_of_ble_eq_true rfl)
  rw [lg_entry_eq]
  generalize (lg_sl ([.ref (a 61), .int y1]) ++ List.replicate (4 - (lg_sl ([.ref (a 61), .int y1])).length) Slot.unset).toArray = ls at hl ⊢
  have hl : lv_has ls 4 [(0, .ref (a 61)), (1, .int y1)] := hl
  have b49 : ∀ (x1 : Int32) (x2 : Int32) (S : ZS) (H : Heap) (locs : List Loc) (ls : Array Slot), X7_joinRows_b49 x1 x2 S Q → va_P D vwCl (zWS k a S) H → va_S (zA a s.heap.size) s.heap H locs → lv_has ls 4 [(0, .ref (a 61)), (1, .int x1), (2, .int x2)] → zWv p l e (headSpec wsX7_joinRows rm_X7_joinRows).room s m ([.ref (a 61), .int y1] : List Value) below meth c D k a Q H locs (F0 m 49 ls []) := by
    intro x1 x2 S H locs ls hm hP hS hl
    unfold X7_joinRows_b49 at hm
    have b90 : ∀ (S : ZS) (H : Heap) (locs : List Loc) (ls : Array Slot), X7_joinRows_b90 S Q → va_P D vwCl (zWS k a S) H → va_S (zA a s.heap.size) s.heap H locs → lv_has ls 4 [(0, .ref (a 61))] → zWv p l e (headSpec wsX7_joinRows rm_X7_joinRows).room s m ([.ref (a 61), .int y1] : List Value) below meth c D k a Q H locs (F0 m 90 ls []) := by
      intro S H locs ls hm hP hS hl
      unfold X7_joinRows_b90 at hm
      exact z_retv hx hb hr hlocks hP hS hm dX7_joinRows_90
    have L51 : ∀ (x1 : Int32) (x2 : Int32) (n : Nat) (x3 : Int32) (S : ZS) (H : Heap) (locs : List Loc) (ls : Array Slot), zn (X7_joinRows_L51 x1 x2 Q) n (x3, S) → va_P D vwCl (zWS k a S) H → va_S (zA a s.heap.size) s.heap H locs → lv_has ls 4 [(0, .ref (a 61)), (1, .int x1), (2, .int x2), (3, .int x3)] → zWv p l e (headSpec wsX7_joinRows rm_X7_joinRows).room s m ([.ref (a 61), .int y1] : List Value) below meth c D k a Q H locs (F0 m 51 ls []) := by
      intro x1 x2 n
      induction n with
      | zero =>
        intro x3 S H locs ls hm
        exact hm.elim
      | succ n ih51 =>
        intro x3 S H locs ls hm hP hS hl
        have hm : X7_joinRows_B51 x1 x2 x3 S Q (zn (X7_joinRows_L51 x1 x2 Q) n) := hm
        generalize zn (X7_joinRows_L51 x1 x2 Q) n = k51 at hm ih51
        unfold X7_joinRows_B51 at hm
        have b83 : ∀ (x3 : Int32) (t0 : Int32) (t1 : Int32) (S : ZS) (H : Heap) (locs : List Loc) (ls : Array Slot), X7_joinRows_b83 x1 x2 x3 t0 t1 S Q k51 → va_P D vwCl (zWS k a S) H → va_S (zA a s.heap.size) s.heap H locs → lv_has ls 4 [(0, .ref (a 61)), (1, .int x1), (2, .int x2), (3, .int x3)] → zWv p l e (headSpec wsX7_joinRows rm_X7_joinRows).room s m ([.ref (a 61), .int y1] : List Value) below meth c D k a Q H locs (F0 m 83 ls [.int t0, .int t1, .ref (a 70)]) := by
          intro x3 t0 t1 S H locs ls hm hP hS hl
          unfold X7_joinRows_b83 at hm
          obtain ⟨h_83, hm⟩ := hm
          refine z_iast hx hb hj hK hP hS zI_70 h_83 dX7_joinRows_83 (fun H locs hP hS => ?_)
          obtain ⟨S_83, eS_83⟩ : ∃ z : ZS, z = zu S 70 (t1).toNatClampNeg t0 := ⟨_, rfl⟩
          rw [← eS_83] at hP
          have hm := hm S_83 eS_83
          obtain ⟨x3_84, ex3_84⟩ : ∃ y : Int32, y = x3 + (1 : Int32) := ⟨_, rfl⟩
          have hm := hm x3_84 ex3_84
          refine lv_iinc (v := x3_84) (lv' := [(3, .int x3_84), (0, .ref (a 61)), (1, .int x1), (2, .int x2)]) hx hb dX7_joinRows_84 hl (k := 3) rfl (by rw [ex3_84]; rfl) (by decide) rfl (fun ls hl => ?_)
          refine lv_goto (tgt := 51) hx hb dX7_joinRows_87 (by decide) ?_
          exact ih51 x3_84 S_83 _ _ _ hm hP hS (lv_sub hl [1, 2, 3, 0] rfl)
        refine lv_iload_n hx hb dX7_joinRows_51 rfl (lv_at hl 3 rfl) ?_
        refine lv_aload_n hx hb dX7_joinRows_52 rfl (lv_at hl 0 rfl) ?_
        refine zg_7_rows hx hb hts i7 hown hK hP (hts _ (List.mem_of_getElem? (i := 1) rfl)) dX7_joinRows_53 ?_
        refine lv_icmp_ge (tgt := 90) hx hb dX7_joinRows_56 (by decide) (fun c_56 => ?_) (fun c_56 => ?_)
        · have hm := hm.1 c_56
          exact b90  S _ _ _ hm hP hS (lv_sub hl [0] rfl)
        · have hm := hm.2 c_56
          refine lv_aload_n hx hb dX7_joinRows_59 rfl (lv_at hl 0 rfl) ?_
          refine zg_7_least hx hb hts i7 hown hK hP (hts _ (List.mem_of_getElem? (i := 2) rfl)) dX7_joinRows_60 ?_
          refine lv_iload_n hx hb dX7_joinRows_63 rfl (lv_at hl 3 rfl) ?_
          refine lv_aload_n hx hb dX7_joinRows_64 rfl (lv_at hl 0 rfl) ?_
          refine lv_iload_n hx hb dX7_joinRows_65 rfl (lv_at hl 3 rfl) ?_
          refine lv_iload_n hx hb dX7_joinRows_66 rfl (lv_at hl 1 rfl) ?_
          refine z_cVi (As := [.int x3, .int x1]) (rest := [.int x3, .ref (a 70)]) hF hK hP hS zO_61 rfl rfl (c_X7_coef l D k a hj x3 x1 S _ hm _) (cwV 2 hts gX7_joinRows_X7_coef rfl rfl rfl (by decide +kernel) ⟨Nat.le_of_ble_eq_true rfl, Nat.le_of_ble_eq_true rfl⟩) rfl hl.1 rfl (Nat.le_of_ble_eq_true rfl) dX7_joinRows_67 ⟨Nat.zero_le _, Nat.zero_le _⟩ (fun r_67 S_67 H locs hm hP hS => ?_)
          refine lv_if_eq (tgt := 77) hx hb dX7_joinRows_70 (by decide) (fun c_70 => ?_) (fun c_70 => ?_)
          · have hm := hm.1 c_70
            refine lv_aload_n hx hb dX7_joinRows_77 rfl (lv_at hl 0 rfl) ?_
            refine zg_7_least hx hb hts i7 hown hK hP (hts _ (List.mem_of_getElem? (i := 2) rfl)) dX7_joinRows_78 ?_
            refine lv_iload_n hx hb dX7_joinRows_81 rfl (lv_at hl 3 rfl) ?_
            obtain ⟨h_82, hm⟩ := hm
            refine z_iald hx hb hK hP zI_70 h_82 dX7_joinRows_82 ?_
            exact b83 x3 (S_67.1 70 (x3).toNatClampNeg) x3 S_67 _ _ _ hm hP hS (lv_sub hl [0, 1, 2, 3] rfl)
          · have hm := hm.2 c_70
            refine lv_iload_n hx hb dX7_joinRows_73 rfl (lv_at hl 2 rfl) ?_
            refine lv_goto (tgt := 83) hx hb dX7_joinRows_74 (by decide) ?_
            exact b83 x3 x2 x3 S_67 _ _ _ hm hP hS (lv_sub hl [0, 1, 2, 3] rfl)
    refine lv_iconst (v := (0 : Int32)) hx hb dX7_joinRows_49 (by decide) ?_
    refine lv_istore_n (lv' := [(3, .int (0 : Int32)), (0, .ref (a 61)), (1, .int x1), (2, .int x2)]) hx hb dX7_joinRows_50 rfl hl (by decide) rfl (fun ls hl => ?_)
    obtain ⟨n51, hm⟩ := hm
    exact L51 x1 x2 n51 (0 : Int32) S _ _ _ hm hP hS (lv_sub hl [1, 2, 3, 0] rfl)
  have L5 : ∀ (x1 : Int32) (n : Nat) (x2 : Int32) (x3 : Int32) (S : ZS) (H : Heap) (locs : List Loc) (ls : Array Slot), zn (X7_joinRows_L5 x1 Q) n (x2, x3, S) → va_P D vwCl (zWS k a S) H → va_S (zA a s.heap.size) s.heap H locs → lv_has ls 4 [(0, .ref (a 61)), (1, .int x1), (2, .int x2), (3, .int x3)] → zWv p l e (headSpec wsX7_joinRows rm_X7_joinRows).room s m ([.ref (a 61), .int y1] : List Value) below meth c D k a Q H locs (F0 m 5 ls []) := by
    intro x1 n
    induction n with
    | zero =>
      intro x2 x3 S H locs ls hm
      exact hm.elim
    | succ n ih5 =>
      intro x2 x3 S H locs ls hm hP hS hl
      have hm : X7_joinRows_B5 x1 x2 x3 S Q (zn (X7_joinRows_L5 x1 Q) n) := hm
      generalize zn (X7_joinRows_L5 x1 Q) n = k5 at hm ih5
      unfold X7_joinRows_B5 at hm
      have b42 : ∀ (x3 : Int32) (t0 : Int32) (S : ZS) (H : Heap) (locs : List Loc) (ls : Array Slot), X7_joinRows_b42 x1 x3 t0 S Q k5 → va_P D vwCl (zWS k a S) H → va_S (zA a s.heap.size) s.heap H locs → lv_has ls 4 [(0, .ref (a 61)), (1, .int x1), (3, .int x3)] → zWv p l e (headSpec wsX7_joinRows rm_X7_joinRows).room s m ([.ref (a 61), .int y1] : List Value) below meth c D k a Q H locs (F0 m 42 ls [.int t0]) := by
        intro x3 t0 S H locs ls hm hP hS hl
        unfold X7_joinRows_b42 at hm
        refine lv_istore_n (lv' := [(2, .int t0), (0, .ref (a 61)), (1, .int x1), (3, .int x3)]) hx hb dX7_joinRows_42 rfl hl (by decide) rfl (fun ls hl => ?_)
        obtain ⟨x3_43, ex3_43⟩ : ∃ y : Int32, y = x3 + (1 : Int32) := ⟨_, rfl⟩
        have hm := hm x3_43 ex3_43
        refine lv_iinc (v := x3_43) (lv' := [(3, .int x3_43), (2, .int t0), (0, .ref (a 61)), (1, .int x1)]) hx hb dX7_joinRows_43 hl (k := 3) rfl (by rw [ex3_43]; rfl) (by decide) rfl (fun ls hl => ?_)
        refine lv_goto (tgt := 5) hx hb dX7_joinRows_46 (by decide) ?_
        exact ih5 t0 x3_43 S _ _ _ hm hP hS (lv_sub hl [2, 3, 1, 0] rfl)
      have b41 : ∀ (x2 : Int32) (x3 : Int32) (S : ZS) (H : Heap) (locs : List Loc) (ls : Array Slot), X7_joinRows_b41 x1 x2 x3 S Q k5 → va_P D vwCl (zWS k a S) H → va_S (zA a s.heap.size) s.heap H locs → lv_has ls 4 [(0, .ref (a 61)), (1, .int x1), (2, .int x2), (3, .int x3)] → zWv p l e (headSpec wsX7_joinRows rm_X7_joinRows).room s m ([.ref (a 61), .int y1] : List Value) below meth c D k a Q H locs (F0 m 41 ls []) := by
        intro x2 x3 S H locs ls hm hP hS hl
        unfold X7_joinRows_b41 at hm
        refine lv_iload_n hx hb dX7_joinRows_41 rfl (lv_at hl 2 rfl) ?_
        exact b42 x3 x2 S _ _ _ hm hP hS (lv_sub hl [0, 1, 3] rfl)
      refine lv_iload_n hx hb dX7_joinRows_5 rfl (lv_at hl 3 rfl) ?_
      refine lv_aload_n hx hb dX7_joinRows_6 rfl (lv_at hl 0 rfl) ?_
      refine zg_7_rows hx hb hts i7 hown hK hP (hts _ (List.mem_of_getElem? (i := 1) rfl)) dX7_joinRows_7 ?_
      refine lv_icmp_ge (tgt := 49) hx hb dX7_joinRows_10 (by decide) (fun c_10 => ?_) (fun c_10 => ?_)
      · have hm := hm.1 c_10
        exact b49 x1 x2 S _ _ _ hm hP hS (lv_sub hl [0, 1, 2] rfl)
      · have hm := hm.2 c_10
        refine lv_aload_n hx hb dX7_joinRows_13 rfl (lv_at hl 0 rfl) ?_
        refine lv_iload_n hx hb dX7_joinRows_14 rfl (lv_at hl 3 rfl) ?_
        refine lv_iload_n hx hb dX7_joinRows_15 rfl (lv_at hl 1 rfl) ?_
        refine z_cVi (As := [.int x3, .int x1]) (rest := []) hF hK hP hS zO_61 rfl rfl (c_X7_coef l D k a hj x3 x1 S _ hm _) (cwV 2 hts gX7_joinRows_X7_coef rfl rfl rfl (by decide +kernel) ⟨Nat.le_of_ble_eq_true rfl, Nat.le_of_ble_eq_true rfl⟩) rfl hl.1 rfl (Nat.le_of_ble_eq_true rfl) dX7_joinRows_16 ⟨Nat.zero_le _, Nat.zero_le _⟩ (fun r_16 S_16 H locs hm hP hS => ?_)
        refine lv_if_eq (tgt := 41) hx hb dX7_joinRows_19 (by decide) (fun c_19 => ?_) (fun c_19 => ?_)
        · have hm := hm.1 c_19
          exact b41 x2 x3 S_16 _ _ _ hm hP hS (lv_sub hl [0, 1, 2, 3] rfl)
        · have hm := hm.2 c_19
          refine lv_aload_n hx hb dX7_joinRows_22 rfl (lv_at hl 0 rfl) ?_
          refine zg_7_least hx hb hts i7 hown hK hP (hts _ (List.mem_of_getElem? (i := 2) rfl)) dX7_joinRows_23 ?_
          refine lv_iload_n hx hb dX7_joinRows_26 rfl (lv_at hl 3 rfl) ?_
          obtain ⟨h_27, hm⟩ := hm
          refine z_iald hx hb hK hP zI_70 h_27 dX7_joinRows_27 ?_
          refine lv_iload_n hx hb dX7_joinRows_28 rfl (lv_at hl 2 rfl) ?_
          refine lv_icmp_ge (tgt := 41) hx hb dX7_joinRows_29 (by decide) (fun c_29 => ?_) (fun c_29 => ?_)
          · have hm := hm.1 c_29
            exact b41 x2 x3 S_16 _ _ _ hm hP hS (lv_sub hl [0, 1, 2, 3] rfl)
          · have hm := hm.2 c_29
            refine lv_aload_n hx hb dX7_joinRows_32 rfl (lv_at hl 0 rfl) ?_
            refine zg_7_least hx hb hts i7 hown hK hP (hts _ (List.mem_of_getElem? (i := 2) rfl)) dX7_joinRows_33 ?_
            refine lv_iload_n hx hb dX7_joinRows_36 rfl (lv_at hl 3 rfl) ?_
            obtain ⟨h_37, hm⟩ := hm
            refine z_iald hx hb hK hP zI_70 h_37 dX7_joinRows_37 ?_
            refine lv_goto (tgt := 42) hx hb dX7_joinRows_38 (by decide) ?_
            exact b42 x3 (S_16.1 70 (x3).toNatClampNeg) S_16 _ _ _ hm hP hS (lv_sub hl [0, 1, 3] rfl)
  unfold X7_joinRows at hm
  refine lv_bipush (v := (8 : Int32)) hx hb dX7_joinRows_0 (by decide) ?_
  refine lv_istore_n (lv' := [(2, .int (8 : Int32)), (0, .ref (a 61)), (1, .int y1)]) hx hb dX7_joinRows_2 rfl hl (by decide) rfl (fun ls hl => ?_)
  refine lv_iconst (v := (0 : Int32)) hx hb dX7_joinRows_3 (by decide) ?_
  refine lv_istore_n (lv' := [(3, .int (0 : Int32)), (2, .int (8 : Int32)), (0, .ref (a 61)), (1, .int y1)]) hx hb dX7_joinRows_4 rfl hl (by decide) rfl (fun ls hl => ?_)
  obtain ⟨n5, hm⟩ := hm
  exact L5 y1 n5 (8 : Int32) (0 : Int32) S _ _ _ hm hP hS (lv_sub hl [2, 3, 1, 0] rfl)

abbrev rm_X7_findParts : Room := { frames := 2, cells := 0, slots := 0, locals := 45 }
def X7_findParts_b60 (S : ZS) (Q : ZS → Prop) : Prop :=
  Q S
def X7_findParts_b54 (x1 : Int32) (S : ZS) (Q : ZS → Prop) (k25 : Int32 × ZS → Prop) : Prop :=
  ∀ x1_54 : Int32, x1_54 = x1 + (1 : Int32) → k25 (x1_54, S)
def X7_findParts_B35 (x1 : Int32) (x2 : Int32) (S : ZS) (Q : ZS → Prop) (k25 : Int32 × ZS → Prop) (k35 : Int32 × ZS → Prop) : Prop :=
  ((S.1 61 1) ≤ x2 → X7_findParts_b54 x1 S Q k25) ∧ (¬ (S.1 61 1) ≤ x2 → X7_joinRows x2 S (fun S_45 => ∀ x2_48 : Int32, x2_48 = x2 + (1 : Int32) → k35 (x2_48, S_45)))
def X7_findParts_L35 (x1 : Int32) (Q : ZS → Prop) (k25 : Int32 × ZS → Prop) : (Int32 × ZS) → ((Int32 × ZS) → Prop) → Prop := fun st k35 => X7_findParts_B35 x1 st.1 st.2 Q k25 k35
def X7_findParts_B25 (x1 : Int32) (S : ZS) (Q : ZS → Prop) (k25 : Int32 × ZS → Prop) : Prop :=
  ((S.1 61 2) ≤ x1 → X7_findParts_b60 S Q) ∧ (¬ (S.1 61 2) ≤ x1 → zl (X7_findParts_L35 x1 Q k25) ((0 : Int32), S))
def X7_findParts_L25 (Q : ZS → Prop) : (Int32 × ZS) → ((Int32 × ZS) → Prop) → Prop := fun st k25 => X7_findParts_B25 st.1 st.2 Q k25
def X7_findParts_b23 (S : ZS) (Q : ZS → Prop) : Prop :=
  zl (X7_findParts_L25 Q) ((0 : Int32), S)
def X7_findParts_B2 (x1 : Int32) (S : ZS) (Q : ZS → Prop) (k2 : Int32 × ZS → Prop) : Prop :=
  ((S.1 61 2) ≤ x1 → X7_findParts_b23 S Q) ∧ (¬ (S.1 61 2) ≤ x1 → vp_in x1 8 ∧ ∀ S_16 : ZS, S_16 = zu S 70 (x1).toNatClampNeg x1 → ∀ x1_17 : Int32, x1_17 = x1 + (1 : Int32) → k2 (x1_17, S_16))
def X7_findParts_L2 (Q : ZS → Prop) : (Int32 × ZS) → ((Int32 × ZS) → Prop) → Prop := fun st k2 => X7_findParts_B2 st.1 st.2 Q k2
def X7_findParts (S : ZS) (Q : ZS → Prop) : Prop :=
  zl (X7_findParts_L2 Q) ((0 : Int32), S)
set_option maxHeartbeats 4000000 in
set_option maxRecDepth 100000 in
theorem c_X7_findParts (l : Launch) (D : va_G) (k : Nat → ClassId) (a : Nat → Nat) (hj : zDj a) (S : ZS) (Q : ZS → Prop) (hm : X7_findParts S Q) (sz : Nat) : Met l yX7_findParts wsX7_findParts rm_X7_findParts (zPc D k a [.ref (a 61)] S sz) (va_Qv Q (zB D k a) (zA a sz)) 0 0 (zA a sz) := by
  refine Met.ofW (cc := cX7_findParts) (maxL := 3) (ret := none) (by decide) rfl ?_
  intro p e s m args below meth c s₁ B hml hv
  obtain ⟨rfl, hsz, hP, hK⟩ := hv
  have hx := B.exec
  have hb := B.bytes
  have hr := B.returns
  have hts := atoms_spec (ws := wsX7_findParts) B.pre
  have hown : s.vm.findClass RX7 = some m.cls := findClass_of_methodNamed B.named
  have hlocks := B.notSynchronized
  subst hsz
  have hS : va_S (zA a s.heap.size) s.heap s.heap [] := va_S.rf
  have hF : CallFix p m c cX7_findParts 3 s _ wsX7_findParts RX7 := ⟨hx, hb, hml, hown, hts⟩
  have i7 : ∀ w ∈ wsX70, w ∈ wsX7_findParts := fun _ h => (List.mem_cons_of_mem _ (List.mem_append_right _ h))
  have hl := lv_entry ([.ref (a 61)]) (n := 3) (Nat.le_of_ble_eq_true rfl)
  rw [lg_entry_eq]
  generalize (lg_sl ([.ref (a 61)]) ++ List.replicate (3 - (lg_sl ([.ref (a 61)])).length) Slot.unset).toArray = ls at hl ⊢
  have hl : lv_has ls 3 [(0, .ref (a 61))] := hl
  have b23 : ∀ (S : ZS) (H : Heap) (locs : List Loc) (ls : Array Slot), X7_findParts_b23 S Q → va_P D vwCl (zWS k a S) H → va_S (zA a s.heap.size) s.heap H locs → lv_has ls 3 [(0, .ref (a 61))] → zWv p l e (headSpec wsX7_findParts rm_X7_findParts).room s m ([.ref (a 61)] : List Value) below meth c D k a Q H locs (F0 m 23 ls []) := by
    intro S H locs ls hm hP hS hl
    unfold X7_findParts_b23 at hm
    have b60 : ∀ (S : ZS) (H : Heap) (locs : List Loc) (ls : Array Slot), X7_findParts_b60 S Q → va_P D vwCl (zWS k a S) H → va_S (zA a s.heap.size) s.heap H locs → lv_has ls 3 [(0, .ref (a 61))] → zWv p l e (headSpec wsX7_findParts rm_X7_findParts).room s m ([.ref (a 61)] : List Value) below meth c D k a Q H locs (F0 m 60 ls []) := by
      intro S H locs ls hm hP hS hl
      unfold X7_findParts_b60 at hm
      exact z_retv hx hb hr hlocks hP hS hm dX7_findParts_60
    have L25 : ∀ (n : Nat) (x1 : Int32) (S : ZS) (H : Heap) (locs : List Loc) (ls : Array Slot), zn (X7_findParts_L25 Q) n (x1, S) → va_P D vwCl (zWS k a S) H → va_S (zA a s.heap.size) s.heap H locs → lv_has ls 3 [(0, .ref (a 61)), (1, .int x1)] → zWv p l e (headSpec wsX7_findParts rm_X7_findParts).room s m ([.ref (a 61)] : List Value) below meth c D k a Q H locs (F0 m 25 ls []) := by
      intro n
      induction n with
      | zero =>
        intro x1 S H locs ls hm
        exact hm.elim
      | succ n ih25 =>
        intro x1 S H locs ls hm hP hS hl
        have hm : X7_findParts_B25 x1 S Q (zn (X7_findParts_L25 Q) n) := hm
        generalize zn (X7_findParts_L25 Q) n = k25 at hm ih25
        unfold X7_findParts_B25 at hm
        have b54 : ∀ (x1 : Int32) (S : ZS) (H : Heap) (locs : List Loc) (ls : Array Slot), X7_findParts_b54 x1 S Q k25 → va_P D vwCl (zWS k a S) H → va_S (zA a s.heap.size) s.heap H locs → lv_has ls 3 [(0, .ref (a 61)), (1, .int x1)] → zWv p l e (headSpec wsX7_findParts rm_X7_findParts).room s m ([.ref (a 61)] : List Value) below meth c D k a Q H locs (F0 m 54 ls []) := by
          intro x1 S H locs ls hm hP hS hl
          unfold X7_findParts_b54 at hm
          obtain ⟨x1_54, ex1_54⟩ : ∃ y : Int32, y = x1 + (1 : Int32) := ⟨_, rfl⟩
          have hm := hm x1_54 ex1_54
          refine lv_iinc (v := x1_54) (lv' := [(1, .int x1_54), (0, .ref (a 61))]) hx hb dX7_findParts_54 hl (k := 1) rfl (by rw [ex1_54]; rfl) (by decide) rfl (fun ls hl => ?_)
          refine lv_goto (tgt := 25) hx hb dX7_findParts_57 (by decide) ?_
          exact ih25 x1_54 S _ _ _ hm hP hS (lv_sub hl [1, 0] rfl)
        have L35 : ∀ (x1 : Int32) (n : Nat) (x2 : Int32) (S : ZS) (H : Heap) (locs : List Loc) (ls : Array Slot), zn (X7_findParts_L35 x1 Q k25) n (x2, S) → va_P D vwCl (zWS k a S) H → va_S (zA a s.heap.size) s.heap H locs → lv_has ls 3 [(0, .ref (a 61)), (1, .int x1), (2, .int x2)] → zWv p l e (headSpec wsX7_findParts rm_X7_findParts).room s m ([.ref (a 61)] : List Value) below meth c D k a Q H locs (F0 m 35 ls []) := by
          intro x1 n
          induction n with
          | zero =>
            intro x2 S H locs ls hm
            exact hm.elim
          | succ n ih35 =>
            intro x2 S H locs ls hm hP hS hl
            have hm : X7_findParts_B35 x1 x2 S Q k25 (zn (X7_findParts_L35 x1 Q k25) n) := hm
            generalize zn (X7_findParts_L35 x1 Q k25) n = k35 at hm ih35
            unfold X7_findParts_B35 at hm
            refine lv_iload_n hx hb dX7_findParts_35 rfl (lv_at hl 2 rfl) ?_
            refine lv_aload_n hx hb dX7_findParts_36 rfl (lv_at hl 0 rfl) ?_
            refine zg_7_columns hx hb hts i7 hown hK hP (hts _ (List.mem_of_getElem? (i := 3) rfl)) dX7_findParts_37 ?_
            refine lv_icmp_ge (tgt := 54) hx hb dX7_findParts_40 (by decide) (fun c_40 => ?_) (fun c_40 => ?_)
            · have hm := hm.1 c_40
              exact b54 x1 S _ _ _ hm hP hS (lv_sub hl [0, 1] rfl)
            · have hm := hm.2 c_40
              refine lv_aload_n hx hb dX7_findParts_43 rfl (lv_at hl 0 rfl) ?_
              refine lv_iload_n hx hb dX7_findParts_44 rfl (lv_at hl 2 rfl) ?_
              refine z_cVv (As := [.int x2]) (rest := []) hF hK hP hS zO_61 rfl rfl (c_X7_joinRows l D k a hj x2 S _ hm _) (cwV 1 hts gX7_findParts_X7_joinRows rfl rfl rfl (by decide +kernel) ⟨Nat.le_of_ble_eq_true rfl, Nat.le_of_ble_eq_true rfl⟩) rfl hl.1 rfl (Nat.le_of_ble_eq_true rfl) dX7_findParts_45 ⟨Nat.zero_le _, Nat.zero_le _⟩ (fun S_45 H locs hm hP hS => ?_)
              obtain ⟨x2_48, ex2_48⟩ : ∃ y : Int32, y = x2 + (1 : Int32) := ⟨_, rfl⟩
              have hm := hm x2_48 ex2_48
              refine lv_iinc (v := x2_48) (lv' := [(2, .int x2_48), (0, .ref (a 61)), (1, .int x1)]) hx hb dX7_findParts_48 hl (k := 2) rfl (by rw [ex2_48]; rfl) (by decide) rfl (fun ls hl => ?_)
              refine lv_goto (tgt := 35) hx hb dX7_findParts_51 (by decide) ?_
              exact ih35 x2_48 S_45 _ _ _ hm hP hS (lv_sub hl [1, 2, 0] rfl)
        refine lv_iload_n hx hb dX7_findParts_25 rfl (lv_at hl 1 rfl) ?_
        refine lv_aload_n hx hb dX7_findParts_26 rfl (lv_at hl 0 rfl) ?_
        refine zg_7_rows hx hb hts i7 hown hK hP (hts _ (List.mem_of_getElem? (i := 1) rfl)) dX7_findParts_27 ?_
        refine lv_icmp_ge (tgt := 60) hx hb dX7_findParts_30 (by decide) (fun c_30 => ?_) (fun c_30 => ?_)
        · have hm := hm.1 c_30
          exact b60  S _ _ _ hm hP hS (lv_sub hl [0] rfl)
        · have hm := hm.2 c_30
          refine lv_iconst (v := (0 : Int32)) hx hb dX7_findParts_33 (by decide) ?_
          refine lv_istore_n (lv' := [(2, .int (0 : Int32)), (0, .ref (a 61)), (1, .int x1)]) hx hb dX7_findParts_34 rfl hl (by decide) rfl (fun ls hl => ?_)
          obtain ⟨n35, hm⟩ := hm
          exact L35 x1 n35 (0 : Int32) S _ _ _ hm hP hS (lv_sub hl [1, 2, 0] rfl)
    refine lv_iconst (v := (0 : Int32)) hx hb dX7_findParts_23 (by decide) ?_
    refine lv_istore_n (lv' := [(1, .int (0 : Int32)), (0, .ref (a 61))]) hx hb dX7_findParts_24 rfl hl (by decide) rfl (fun ls hl => ?_)
    obtain ⟨n25, hm⟩ := hm
    exact L25 n25 (0 : Int32) S _ _ _ hm hP hS (lv_sub hl [1, 0] rfl)
  have L2 : ∀ (n : Nat) (x1 : Int32) (S : ZS) (H : Heap) (locs : List Loc) (ls : Array Slot), zn (X7_findParts_L2 Q) n (x1, S) → va_P D vwCl (zWS k a S) H → va_S (zA a s.heap.size) s.heap H locs → lv_has ls 3 [(0, .ref (a 61)), (1, .int x1)] → zWv p l e (headSpec wsX7_findParts rm_X7_findParts).room s m ([.ref (a 61)] : List Value) below meth c D k a Q H locs (F0 m 2 ls []) := by
    intro n
    induction n with
    | zero =>
      intro x1 S H locs ls hm
      exact hm.elim
    | succ n ih2 =>
      intro x1 S H locs ls hm hP hS hl
      have hm : X7_findParts_B2 x1 S Q (zn (X7_findParts_L2 Q) n) := hm
      generalize zn (X7_findParts_L2 Q) n = k2 at hm ih2
      unfold X7_findParts_B2 at hm
      refine lv_iload_n hx hb dX7_findParts_2 rfl (lv_at hl 1 rfl) ?_
      refine lv_aload_n hx hb dX7_findParts_3 rfl (lv_at hl 0 rfl) ?_
      refine zg_7_rows hx hb hts i7 hown hK hP (hts _ (List.mem_of_getElem? (i := 1) rfl)) dX7_findParts_4 ?_
      refine lv_icmp_ge (tgt := 23) hx hb dX7_findParts_7 (by decide) (fun c_7 => ?_) (fun c_7 => ?_)
      · have hm := hm.1 c_7
        exact b23  S _ _ _ hm hP hS (lv_sub hl [0] rfl)
      · have hm := hm.2 c_7
        refine lv_aload_n hx hb dX7_findParts_10 rfl (lv_at hl 0 rfl) ?_
        refine zg_7_least hx hb hts i7 hown hK hP (hts _ (List.mem_of_getElem? (i := 2) rfl)) dX7_findParts_11 ?_
        refine lv_iload_n hx hb dX7_findParts_14 rfl (lv_at hl 1 rfl) ?_
        refine lv_iload_n hx hb dX7_findParts_15 rfl (lv_at hl 1 rfl) ?_
        obtain ⟨h_16, hm⟩ := hm
        refine z_iast hx hb hj hK hP hS zI_70 h_16 dX7_findParts_16 (fun H locs hP hS => ?_)
        obtain ⟨S_16, eS_16⟩ : ∃ z : ZS, z = zu S 70 (x1).toNatClampNeg x1 := ⟨_, rfl⟩
        rw [← eS_16] at hP
        have hm := hm S_16 eS_16
        obtain ⟨x1_17, ex1_17⟩ : ∃ y : Int32, y = x1 + (1 : Int32) := ⟨_, rfl⟩
        have hm := hm x1_17 ex1_17
        refine lv_iinc (v := x1_17) (lv' := [(1, .int x1_17), (0, .ref (a 61))]) hx hb dX7_findParts_17 hl (k := 1) rfl (by rw [ex1_17]; rfl) (by decide) rfl (fun ls hl => ?_)
        refine lv_goto (tgt := 2) hx hb dX7_findParts_20 (by decide) ?_
        exact ih2 x1_17 S_16 _ _ _ hm hP hS (lv_sub hl [1, 0] rfl)
  unfold X7_findParts at hm
  refine lv_iconst (v := (0 : Int32)) hx hb dX7_findParts_0 (by decide) ?_
  refine lv_istore_n (lv' := [(1, .int (0 : Int32)), (0, .ref (a 61))]) hx hb dX7_findParts_1 rfl hl (by decide) rfl (fun ls hl => ?_)
  obtain ⟨n2, hm⟩ := hm
  exact L2 n2 (0 : Int32) S _ _ _ hm hP hS (lv_sub hl [1, 0] rfl)

abbrev rm_X7_parts : Room := { frames := 3, cells := 0, slots := 0, locals := 67 }
def X7_parts_b45 (x1 : Int32) (S : ZS) (Q : Int32 → ZS → Prop) : Prop :=
  Q x1 S
def X7_parts_b37 (x2 : Int32) (t0 : Int32) (t1 : Int32) (S : ZS) (Q : Int32 → ZS → Prop) (k13 : Int32 × Int32 × ZS → Prop) : Prop :=
  ∀ x1_38 : Int32, x1_38 = (t1 + t0) → ∀ x2_39 : Int32, x2_39 = x2 + (1 : Int32) → k13 (x1_38, x2_39, S)
def X7_parts_B13 (x1 : Int32) (x2 : Int32) (S : ZS) (Q : Int32 → ZS → Prop) (k13 : Int32 × Int32 × ZS → Prop) : Prop :=
  ((S.1 61 2) ≤ x2 → X7_parts_b45 x1 S Q) ∧ (¬ (S.1 61 2) ≤ x2 → vp_in x2 8 ∧ ((S.1 70 (x2).toNatClampNeg) = x2 → X7_parts_b37 x2 (1 : Int32) x1 S Q k13) ∧ (¬ (S.1 70 (x2).toNatClampNeg) = x2 → X7_parts_b37 x2 (0 : Int32) x1 S Q k13))
def X7_parts_L13 (Q : Int32 → ZS → Prop) : (Int32 × Int32 × ZS) → ((Int32 × Int32 × ZS) → Prop) → Prop := fun st k13 => X7_parts_B13 st.1 st.2.1 st.2.2 Q k13
def X7_parts (S : ZS) (Q : Int32 → ZS → Prop) : Prop :=
  ∀ S_2 : ZS, S_2 = zu S 61 0 (0 : Int32) → X7_findParts S_2 (fun S_6 => zl (X7_parts_L13 Q) ((0 : Int32), (0 : Int32), S_6))
set_option maxHeartbeats 4000000 in
set_option maxRecDepth 100000 in
theorem c_X7_parts (l : Launch) (D : va_G) (k : Nat → ClassId) (a : Nat → Nat) (hj : zDj a) (S : ZS) (Q : Int32 → ZS → Prop) (hm : X7_parts S Q) (sz : Nat) : Met l yX7_parts wsX7_parts rm_X7_parts (zPc D k a [.ref (a 61)] S sz) (va_Qi Q (zB D k a) (zA a sz)) 0 0 (zA a sz) := by
  refine Met.ofW (cc := cX7_parts) (maxL := 3) (ret := (some .int)) (by decide) rfl ?_
  intro p e s m args below meth c s₁ B hml hv
  obtain ⟨rfl, hsz, hP, hK⟩ := hv
  have hx := B.exec
  have hb := B.bytes
  have hr := B.returns
  have hts := atoms_spec (ws := wsX7_parts) B.pre
  have hown : s.vm.findClass RX7 = some m.cls := findClass_of_methodNamed B.named
  have hlocks := B.notSynchronized
  subst hsz
  have hS : va_S (zA a s.heap.size) s.heap s.heap [] := va_S.rf
  have hF : CallFix p m c cX7_parts 3 s _ wsX7_parts RX7 := ⟨hx, hb, hml, hown, hts⟩
  have i7 : ∀ w ∈ wsX70, w ∈ wsX7_parts := fun _ h => (List.mem_cons_of_mem _ (List.mem_append_right _ h))
  have hl := lv_entry ([.ref (a 61)]) (n := 3) (Nat.le_of_ble_eq_true rfl)
  rw [lg_entry_eq]
  generalize (lg_sl ([.ref (a 61)]) ++ List.replicate (3 - (lg_sl ([.ref (a 61)])).length) Slot.unset).toArray = ls at hl ⊢
  have hl : lv_has ls 3 [(0, .ref (a 61))] := hl
  have b45 : ∀ (x1 : Int32) (S : ZS) (H : Heap) (locs : List Loc) (ls : Array Slot), X7_parts_b45 x1 S Q → va_P D vwCl (zWS k a S) H → va_S (zA a s.heap.size) s.heap H locs → lv_has ls 3 [(0, .ref (a 61)), (1, .int x1)] → zWi p l e (headSpec wsX7_parts rm_X7_parts).room s m ([.ref (a 61)] : List Value) below meth c D k a Q H locs (F0 m 45 ls []) := by
    intro x1 S H locs ls hm hP hS hl
    unfold X7_parts_b45 at hm
    refine lv_iload_n hx hb dX7_parts_45 rfl (lv_at hl 1 rfl) ?_
    exact z_reti hx hb hr hlocks hP hS hm dX7_parts_46
  have L13 : ∀ (n : Nat) (x1 : Int32) (x2 : Int32) (S : ZS) (H : Heap) (locs : List Loc) (ls : Array Slot), zn (X7_parts_L13 Q) n (x1, x2, S) → va_P D vwCl (zWS k a S) H → va_S (zA a s.heap.size) s.heap H locs → lv_has ls 3 [(0, .ref (a 61)), (1, .int x1), (2, .int x2)] → zWi p l e (headSpec wsX7_parts rm_X7_parts).room s m ([.ref (a 61)] : List Value) below meth c D k a Q H locs (F0 m 13 ls []) := by
    intro n
    induction n with
    | zero =>
      intro x1 x2 S H locs ls hm
      exact hm.elim
    | succ n ih13 =>
      intro x1 x2 S H locs ls hm hP hS hl
      have hm : X7_parts_B13 x1 x2 S Q (zn (X7_parts_L13 Q) n) := hm
      generalize zn (X7_parts_L13 Q) n = k13 at hm ih13
      unfold X7_parts_B13 at hm
      have b37 : ∀ (x2 : Int32) (t0 : Int32) (t1 : Int32) (S : ZS) (H : Heap) (locs : List Loc) (ls : Array Slot), X7_parts_b37 x2 t0 t1 S Q k13 → va_P D vwCl (zWS k a S) H → va_S (zA a s.heap.size) s.heap H locs → lv_has ls 3 [(0, .ref (a 61)), (2, .int x2)] → zWi p l e (headSpec wsX7_parts rm_X7_parts).room s m ([.ref (a 61)] : List Value) below meth c D k a Q H locs (F0 m 37 ls [.int t0, .int t1]) := by
        intro x2 t0 t1 S H locs ls hm hP hS hl
        unfold X7_parts_b37 at hm
        refine lv_iadd hx hb dX7_parts_37 ?_
        refine lv_topi (fun x1_38 ex1_38 => ?_)
        have hm := hm x1_38 ex1_38
        refine lv_istore_n (lv' := [(1, .int x1_38), (0, .ref (a 61)), (2, .int x2)]) hx hb dX7_parts_38 rfl hl (by decide) rfl (fun ls hl => ?_)
        obtain ⟨x2_39, ex2_39⟩ : ∃ y : Int32, y = x2 + (1 : Int32) := ⟨_, rfl⟩
        have hm := hm x2_39 ex2_39
        refine lv_iinc (v := x2_39) (lv' := [(2, .int x2_39), (1, .int x1_38), (0, .ref (a 61))]) hx hb dX7_parts_39 hl (k := 2) rfl (by rw [ex2_39]; rfl) (by decide) rfl (fun ls hl => ?_)
        refine lv_goto (tgt := 13) hx hb dX7_parts_42 (by decide) ?_
        exact ih13 x1_38 x2_39 S _ _ _ hm hP hS (lv_sub hl [2, 1, 0] rfl)
      refine lv_iload_n hx hb dX7_parts_13 rfl (lv_at hl 2 rfl) ?_
      refine lv_aload_n hx hb dX7_parts_14 rfl (lv_at hl 0 rfl) ?_
      refine zg_7_rows hx hb hts i7 hown hK hP (hts _ (List.mem_of_getElem? (i := 2) rfl)) dX7_parts_15 ?_
      refine lv_icmp_ge (tgt := 45) hx hb dX7_parts_18 (by decide) (fun c_18 => ?_) (fun c_18 => ?_)
      · have hm := hm.1 c_18
        exact b45 x1 S _ _ _ hm hP hS (lv_sub hl [0, 1] rfl)
      · have hm := hm.2 c_18
        refine lv_iload_n hx hb dX7_parts_21 rfl (lv_at hl 1 rfl) ?_
        refine lv_aload_n hx hb dX7_parts_22 rfl (lv_at hl 0 rfl) ?_
        refine zg_7_least hx hb hts i7 hown hK hP (hts _ (List.mem_of_getElem? (i := 3) rfl)) dX7_parts_23 ?_
        refine lv_iload_n hx hb dX7_parts_26 rfl (lv_at hl 2 rfl) ?_
        obtain ⟨h_27, hm⟩ := hm
        refine z_iald hx hb hK hP zI_70 h_27 dX7_parts_27 ?_
        refine lv_iload_n hx hb dX7_parts_28 rfl (lv_at hl 2 rfl) ?_
        refine lv_icmp_ne (tgt := 36) hx hb dX7_parts_29 (by decide) (fun c_29 => ?_) (fun c_29 => ?_)
        · have hm := hm.2 c_29
          refine lv_iconst (v := (0 : Int32)) hx hb dX7_parts_36 (by decide) ?_
          exact b37 x2 (0 : Int32) x1 S _ _ _ hm hP hS (lv_sub hl [0, 2] rfl)
        · have hm := hm.1 c_29
          refine lv_iconst (v := (1 : Int32)) hx hb dX7_parts_32 (by decide) ?_
          refine lv_goto (tgt := 37) hx hb dX7_parts_33 (by decide) ?_
          exact b37 x2 (1 : Int32) x1 S _ _ _ hm hP hS (lv_sub hl [0, 2] rfl)
  unfold X7_parts at hm
  refine lv_aload_n hx hb dX7_parts_0 rfl (lv_at hl 0 rfl) ?_
  refine lv_iconst (v := (0 : Int32)) hx hb dX7_parts_1 (by decide) ?_
  refine zp_7_thrown hx hb hts i7 hown hj hK hP hS (hts _ (List.mem_of_getElem? (i := 1) rfl)) dX7_parts_2 (fun H locs hP hS => ?_)
  obtain ⟨S_2, eS_2⟩ : ∃ z : ZS, z = zu S 61 0 (0 : Int32) := ⟨_, rfl⟩
  rw [← eS_2] at hP
  have hm := hm S_2 eS_2
  refine lv_aload_n hx hb dX7_parts_5 rfl (lv_at hl 0 rfl) ?_
  refine z_cVv (As := []) (rest := []) hF hK hP hS zO_61 rfl rfl (c_X7_findParts l D k a hj  S_2 _ hm _) (cwV 0 hts gX7_parts_X7_findParts rfl rfl rfl (by decide +kernel) ⟨Nat.le_of_ble_eq_true rfl, Nat.le_of_ble_eq_true rfl⟩) rfl hl.1 rfl (Nat.le_of_ble_eq_true rfl) dX7_parts_6 ⟨Nat.zero_le _, Nat.zero_le _⟩ (fun S_6 H locs hm hP hS => ?_)
  refine lv_iconst (v := (0 : Int32)) hx hb dX7_parts_9 (by decide) ?_
  refine lv_istore_n (lv' := [(1, .int (0 : Int32)), (0, .ref (a 61))]) hx hb dX7_parts_10 rfl hl (by decide) rfl (fun ls hl => ?_)
  refine lv_iconst (v := (0 : Int32)) hx hb dX7_parts_11 (by decide) ?_
  refine lv_istore_n (lv' := [(2, .int (0 : Int32)), (1, .int (0 : Int32)), (0, .ref (a 61))]) hx hb dX7_parts_12 rfl hl (by decide) rfl (fun ls hl => ?_)
  obtain ⟨n13, hm⟩ := hm
  exact L13 n13 (0 : Int32) (0 : Int32) S_6 _ _ _ hm hP hS (lv_sub hl [2, 1, 0] rfl)

abbrev rm_X7_part : Room := { frames := 3, cells := 0, slots := 0, locals := 67 }
def X7_part_b14 (x1 : Int32) (t0 : Int32) (S : ZS) (Q : Int32 → ZS → Prop) : Prop :=
  X7_passes t0 (0 : Int32) S (fun r_15 S_15 => (r_15 = 0 → Q (0 : Int32) S_15) ∧ (¬ r_15 = 0 → X7_findParts S_15 (fun S_24 => vp_in x1 8 ∧ Q (S_24.1 70 (x1).toNatClampNeg) S_24)))
def X7_part (y1 : Int32) (S : ZS) (Q : Int32 → ZS → Prop) : Prop :=
  X7_isRow y1 S (fun r_3 S_3 => (r_3 = 0 → X7_part_b14 y1 (1 : Int32) S_3 Q) ∧ (¬ r_3 = 0 → X7_part_b14 y1 (0 : Int32) S_3 Q))
set_option maxHeartbeats 4000000 in
set_option maxRecDepth 100000 in
theorem c_X7_part (l : Launch) (D : va_G) (k : Nat → ClassId) (a : Nat → Nat) (hj : zDj a) (y1 : Int32) (S : ZS) (Q : Int32 → ZS → Prop) (hm : X7_part y1 S Q) (sz : Nat) : Met l yX7_part wsX7_part rm_X7_part (zPc D k a [.ref (a 61), .int y1] S sz) (va_Qi Q (zB D k a) (zA a sz)) 0 0 (zA a sz) := by
  refine Met.ofW (cc := cX7_part) (maxL := 2) (ret := (some .int)) (by decide) rfl ?_
  intro p e s m args below meth c s₁ B hml hv
  obtain ⟨rfl, hsz, hP, hK⟩ := hv
  have hx := B.exec
  have hb := B.bytes
  have hr := B.returns
  have hts := atoms_spec (ws := wsX7_part) B.pre
  have hown : s.vm.findClass RX7 = some m.cls := findClass_of_methodNamed B.named
  have hlocks := B.notSynchronized
  subst hsz
  have hS : va_S (zA a s.heap.size) s.heap s.heap [] := va_S.rf
  have hF : CallFix p m c cX7_part 2 s _ wsX7_part RX7 := ⟨hx, hb, hml, hown, hts⟩
  have i7 : ∀ w ∈ wsX70, w ∈ wsX7_part := fun _ h => (List.mem_cons_of_mem _ (List.mem_append_right _ h))
  have hl := lv_entry ([.ref (a 61), .int y1]) (n := 2) (Nat.le_of_ble_eq_true rfl)
  rw [lg_entry_eq]
  generalize (lg_sl ([.ref (a 61), .int y1]) ++ List.replicate (2 - (lg_sl ([.ref (a 61), .int y1])).length) Slot.unset).toArray = ls at hl ⊢
  have hl : lv_has ls 2 [(0, .ref (a 61)), (1, .int y1)] := hl
  have b14 : ∀ (x1 : Int32) (t0 : Int32) (S : ZS) (H : Heap) (locs : List Loc) (ls : Array Slot), X7_part_b14 x1 t0 S Q → va_P D vwCl (zWS k a S) H → va_S (zA a s.heap.size) s.heap H locs → lv_has ls 2 [(0, .ref (a 61)), (1, .int x1)] → zWi p l e (headSpec wsX7_part rm_X7_part).room s m ([.ref (a 61), .int y1] : List Value) below meth c D k a Q H locs (F0 m 14 ls [.int t0, .ref (a 61)]) := by
    intro x1 t0 S H locs ls hm hP hS hl
    unfold X7_part_b14 at hm
    refine lv_iconst (v := (0 : Int32)) hx hb dX7_part_14 (by decide) ?_
    refine z_cVi (As := [.int t0, .int (0 : Int32)]) (rest := []) hF hK hP hS zO_61 rfl rfl (c_X7_passes l D k a hj t0 (0 : Int32) S _ hm _) (cwV 2 hts gX7_part_X7_passes rfl rfl rfl (by decide +kernel) ⟨Nat.le_of_ble_eq_true rfl, Nat.le_of_ble_eq_true rfl⟩) rfl hl.1 rfl (Nat.le_of_ble_eq_true rfl) dX7_part_15 ⟨Nat.zero_le _, Nat.zero_le _⟩ (fun r_15 S_15 H locs hm hP hS => ?_)
    refine lv_if_ne (tgt := 23) hx hb dX7_part_18 (by decide) (fun c_18 => ?_) (fun c_18 => ?_)
    · have hm := hm.2 c_18
      refine lv_aload_n hx hb dX7_part_23 rfl (lv_at hl 0 rfl) ?_
      refine z_cVv (As := []) (rest := []) hF hK hP hS zO_61 rfl rfl (c_X7_findParts l D k a hj  S_15 _ hm _) (cwV 0 hts gX7_part_X7_findParts rfl rfl rfl (by decide +kernel) ⟨Nat.le_of_ble_eq_true rfl, Nat.le_of_ble_eq_true rfl⟩) rfl hl.1 rfl (Nat.le_of_ble_eq_true rfl) dX7_part_24 ⟨Nat.zero_le _, Nat.zero_le _⟩ (fun S_24 H locs hm hP hS => ?_)
      refine lv_aload_n hx hb dX7_part_27 rfl (lv_at hl 0 rfl) ?_
      refine zg_7_least hx hb hts i7 hown hK hP (hts _ (List.mem_of_getElem? (i := 1) rfl)) dX7_part_28 ?_
      refine lv_iload_n hx hb dX7_part_31 rfl (lv_at hl 1 rfl) ?_
      obtain ⟨h_32, hm⟩ := hm
      refine z_iald hx hb hK hP zI_70 h_32 dX7_part_32 ?_
      exact z_reti hx hb hr hlocks hP hS hm dX7_part_33
    · have hm := hm.1 c_18
      refine lv_iconst (v := (0 : Int32)) hx hb dX7_part_21 (by decide) ?_
      exact z_reti hx hb hr hlocks hP hS hm dX7_part_22
  unfold X7_part at hm
  refine lv_aload_n hx hb dX7_part_0 rfl (lv_at hl 0 rfl) ?_
  refine lv_aload_n hx hb dX7_part_1 rfl (lv_at hl 0 rfl) ?_
  refine lv_iload_n hx hb dX7_part_2 rfl (lv_at hl 1 rfl) ?_
  refine z_cVi (As := [.int y1]) (rest := [.ref (a 61)]) hF hK hP hS zO_61 rfl rfl (c_X7_isRow l D k a hj y1 S _ hm _) (cwV 1 hts gX7_part_X7_isRow rfl rfl rfl (by decide +kernel) ⟨Nat.le_of_ble_eq_true rfl, Nat.le_of_ble_eq_true rfl⟩) rfl hl.1 rfl (Nat.le_of_ble_eq_true rfl) dX7_part_3 ⟨Nat.zero_le _, Nat.zero_le _⟩ (fun r_3 S_3 H locs hm hP hS => ?_)
  refine lv_if_ne (tgt := 13) hx hb dX7_part_6 (by decide) (fun c_6 => ?_) (fun c_6 => ?_)
  · have hm := hm.2 c_6
    refine lv_iconst (v := (0 : Int32)) hx hb dX7_part_13 (by decide) ?_
    exact b14 y1 (0 : Int32) S_3 _ _ _ hm hP hS (lv_sub hl [0, 1] rfl)
  · have hm := hm.1 c_6
    refine lv_iconst (v := (1 : Int32)) hx hb dX7_part_9 (by decide) ?_
    refine lv_goto (tgt := 14) hx hb dX7_part_10 (by decide) ?_
    exact b14 y1 (1 : Int32) S_3 _ _ _ hm hP hS (lv_sub hl [0, 1] rfl)

abbrev rm_X7_signsDo : Room := { frames := 1, cells := 0, slots := 0, locals := 22 }
def X7_signsDo_b112 (x3 : Int32) (S : ZS) (Q : Int32 → ZS → Prop) : Prop :=
  zbit x3 ∧ Q x3 S
def X7_signsDo_b105 (x1 : Int32) (x2 : Int32) (x4 : Int32) (t0 : Int32) (S : ZS) (Q : Int32 → ZS → Prop) (k5 : Int32 × Int32 × ZS → Prop) : Prop :=
  ∀ x4_106 : Int32, x4_106 = x4 + (1 : Int32) → k5 (t0, x4_106, S)
def X7_signsDo_b104 (x1 : Int32) (x2 : Int32) (x4 : Int32) (S : ZS) (Q : Int32 → ZS → Prop) (k5 : Int32 × Int32 × ZS → Prop) : Prop :=
  X7_signsDo_b105 x1 x2 x4 (0 : Int32) S Q k5
def X7_signsDo_b100 (x1 : Int32) (x2 : Int32) (x4 : Int32) (S : ZS) (Q : Int32 → ZS → Prop) (k5 : Int32 × Int32 × ZS → Prop) : Prop :=
  X7_signsDo_b105 x1 x2 x4 (1 : Int32) S Q k5
def X7_signsDo_b85 (x1 : Int32) (x2 : Int32) (x3 : Int32) (x4 : Int32) (x5 : Int32) (x6 : Int32) (S : ZS) (Q : Int32 → ZS → Prop) (k5 : Int32 × Int32 × ZS → Prop) : Prop :=
  (x3 = 0 → X7_signsDo_b104 x1 x2 x4 S Q k5) ∧ (¬ x3 = 0 → (x6 < (2 : Int32) → X7_signsDo_b100 x1 x2 x4 S Q k5) ∧ (¬ x6 < (2 : Int32) → (x5 = 0 → X7_signsDo_b100 x1 x2 x4 S Q k5) ∧ (¬ x5 = 0 → X7_signsDo_b104 x1 x2 x4 S Q k5)))
def X7_signsDo_b76 (x1 : Int32) (x2 : Int32) (x3 : Int32) (x4 : Int32) (x5 : Int32) (x7 : Int32) (t0 : Int32) (t1 : Int32) (S : ZS) (Q : Int32 → ZS → Prop) (k5 : Int32 × Int32 × ZS → Prop) (k20 : Int32 × Int32 × Int32 × ZS → Prop) : Prop :=
  ∀ x6_77 : Int32, x6_77 = (t1 + t0) → ∀ x7_79 : Int32, x7_79 = x7 + (1 : Int32) → k20 (x5, x6_77, x7_79, S)
def X7_signsDo_b54 (x1 : Int32) (x2 : Int32) (x3 : Int32) (x4 : Int32) (x6 : Int32) (x7 : Int32) (t0 : Int32) (t1 : Int32) (t2 : Int32) (S : ZS) (Q : Int32 → ZS → Prop) (k5 : Int32 × Int32 × ZS → Prop) (k20 : Int32 × Int32 × Int32 × ZS → Prop) : Prop :=
  ∀ x5_56 : Int32, x5_56 = (t2 + (t1 * t0)) → X7_coef x7 x4 S (fun r_65 S_65 => (r_65 = 0 → X7_signsDo_b76 x1 x2 x3 x4 x5_56 x7 (0 : Int32) x6 S_65 Q k5 k20) ∧ (¬ r_65 = 0 → X7_signsDo_b76 x1 x2 x3 x4 x5_56 x7 (1 : Int32) x6 S_65 Q k5 k20))
def X7_signsDo_B20 (x1 : Int32) (x2 : Int32) (x3 : Int32) (x4 : Int32) (x5 : Int32) (x6 : Int32) (x7 : Int32) (S : ZS) (Q : Int32 → ZS → Prop) (k5 : Int32 × Int32 × ZS → Prop) (k20 : Int32 × Int32 × Int32 × ZS → Prop) : Prop :=
  ((S.1 61 2) ≤ x7 → X7_signsDo_b85 x1 x2 x3 x4 x5 x6 S Q k5) ∧ (¬ (S.1 61 2) ≤ x7 → X7_coef x7 x4 S (fun r_36 S_36 => (((x1 >>> (x7 &&& 31)) &&& (1 : Int32)) = (1 : Int32) → X7_signsDo_b54 x1 x2 x3 x4 x6 x7 (-1 : Int32) r_36 x5 S_36 Q k5 k20) ∧ (¬ ((x1 >>> (x7 &&& 31)) &&& (1 : Int32)) = (1 : Int32) → X7_signsDo_b54 x1 x2 x3 x4 x6 x7 (1 : Int32) r_36 x5 S_36 Q k5 k20)))
def X7_signsDo_L20 (x1 : Int32) (x2 : Int32) (x3 : Int32) (x4 : Int32) (Q : Int32 → ZS → Prop) (k5 : Int32 × Int32 × ZS → Prop) : (Int32 × Int32 × Int32 × ZS) → ((Int32 × Int32 × Int32 × ZS) → Prop) → Prop := fun st k20 => X7_signsDo_B20 x1 x2 x3 x4 st.1 st.2.1 st.2.2.1 st.2.2.2 Q k5 k20
def X7_signsDo_B5 (x1 : Int32) (x2 : Int32) (x3 : Int32) (x4 : Int32) (S : ZS) (Q : Int32 → ZS → Prop) (k5 : Int32 × Int32 × ZS → Prop) : Prop :=
  (x2 ≤ x4 → X7_signsDo_b112 x3 S Q) ∧ (¬ x2 ≤ x4 → zl (X7_signsDo_L20 x1 x2 x3 x4 Q k5) ((0 : Int32), (0 : Int32), (0 : Int32), S))
def X7_signsDo_L5 (x1 : Int32) (x2 : Int32) (Q : Int32 → ZS → Prop) : (Int32 × Int32 × ZS) → ((Int32 × Int32 × ZS) → Prop) → Prop := fun st k5 => X7_signsDo_B5 x1 x2 st.1 st.2.1 st.2.2 Q k5
def X7_signsDo (y1 : Int32) (y2 : Int32) (S : ZS) (Q : Int32 → ZS → Prop) : Prop :=
  zl (X7_signsDo_L5 y1 y2 Q) ((1 : Int32), (0 : Int32), S)
set_option maxHeartbeats 4000000 in
set_option maxRecDepth 100000 in
theorem c_X7_signsDo (l : Launch) (D : va_G) (k : Nat → ClassId) (a : Nat → Nat) (hj : zDj a) (y1 : Int32) (y2 : Int32) (S : ZS) (Q : Int32 → ZS → Prop) (hm : X7_signsDo y1 y2 S Q) (sz : Nat) : Met l yX7_signsDo wsX7_signsDo rm_X7_signsDo (zPc D k a [.ref (a 61), .int y1, .int y2] S sz) (va_Qi Q (zB D k a) (zA a sz)) 0 0 (zA a sz) := by
  refine Met.ofW (cc := cX7_signsDo) (maxL := 8) (ret := (some .boolean)) (by decide) rfl ?_
  intro p e s m args below meth c s₁ B hml hv
  obtain ⟨rfl, hsz, hP, hK⟩ := hv
  have hx := B.exec
  have hb := B.bytes
  have hr := B.returns
  have hts := atoms_spec (ws := wsX7_signsDo) B.pre
  have hown : s.vm.findClass RX7 = some m.cls := findClass_of_methodNamed B.named
  have hlocks := B.notSynchronized
  subst hsz
  have hS : va_S (zA a s.heap.size) s.heap s.heap [] := va_S.rf
  have hF : CallFix p m c cX7_signsDo 8 s _ wsX7_signsDo RX7 := ⟨hx, hb, hml, hown, hts⟩
  have i7 : ∀ w ∈ wsX70, w ∈ wsX7_signsDo := fun _ h => (List.mem_cons_of_mem _ (List.mem_append_right _ h))
  have hl := lv_entry ([.ref (a 61), .int y1, .int y2]) (n := 8) (Nat.le_of_ble_eq_true rfl)
  rw [lg_entry_eq]
  generalize (lg_sl ([.ref (a 61), .int y1, .int y2]) ++ List.replicate (8 - (lg_sl ([.ref (a 61), .int y1, .int y2])).length) Slot.unset).toArray = ls at hl ⊢
  have hl : lv_has ls 8 [(0, .ref (a 61)), (1, .int y1), (2, .int y2)] := hl
  have b112 : ∀ (x3 : Int32) (S : ZS) (H : Heap) (locs : List Loc) (ls : Array Slot), X7_signsDo_b112 x3 S Q → va_P D vwCl (zWS k a S) H → va_S (zA a s.heap.size) s.heap H locs → lv_has ls 8 [(0, .ref (a 61)), (3, .int x3)] → zWi p l e (headSpec wsX7_signsDo rm_X7_signsDo).room s m ([.ref (a 61), .int y1, .int y2] : List Value) below meth c D k a Q H locs (F0 m 112 ls []) := by
    intro x3 S H locs ls hm hP hS hl
    unfold X7_signsDo_b112 at hm
    refine lv_iload_n hx hb dX7_signsDo_112 rfl (lv_at hl 1 rfl) ?_
    exact z_retz hx hb hr hlocks hP hS hm dX7_signsDo_113
  have L5 : ∀ (x1 : Int32) (x2 : Int32) (n : Nat) (x3 : Int32) (x4 : Int32) (S : ZS) (H : Heap) (locs : List Loc) (ls : Array Slot), zn (X7_signsDo_L5 x1 x2 Q) n (x3, x4, S) → va_P D vwCl (zWS k a S) H → va_S (zA a s.heap.size) s.heap H locs → lv_has ls 8 [(0, .ref (a 61)), (1, .int x1), (2, .int x2), (3, .int x3), (4, .int x4)] → zWi p l e (headSpec wsX7_signsDo rm_X7_signsDo).room s m ([.ref (a 61), .int y1, .int y2] : List Value) below meth c D k a Q H locs (F0 m 5 ls []) := by
    intro x1 x2 n
    induction n with
    | zero =>
      intro x3 x4 S H locs ls hm
      exact hm.elim
    | succ n ih5 =>
      intro x3 x4 S H locs ls hm hP hS hl
      have hm : X7_signsDo_B5 x1 x2 x3 x4 S Q (zn (X7_signsDo_L5 x1 x2 Q) n) := hm
      generalize zn (X7_signsDo_L5 x1 x2 Q) n = k5 at hm ih5
      unfold X7_signsDo_B5 at hm
      have b85 : ∀ (x3 : Int32) (x4 : Int32) (x5 : Int32) (x6 : Int32) (S : ZS) (H : Heap) (locs : List Loc) (ls : Array Slot), X7_signsDo_b85 x1 x2 x3 x4 x5 x6 S Q k5 → va_P D vwCl (zWS k a S) H → va_S (zA a s.heap.size) s.heap H locs → lv_has ls 8 [(0, .ref (a 61)), (1, .int x1), (2, .int x2), (3, .int x3), (4, .int x4), (5, .int x5), (6, .int x6)] → zWi p l e (headSpec wsX7_signsDo rm_X7_signsDo).room s m ([.ref (a 61), .int y1, .int y2] : List Value) below meth c D k a Q H locs (F0 m 85 ls []) := by
        intro x3 x4 x5 x6 S H locs ls hm hP hS hl
        unfold X7_signsDo_b85 at hm
        have b105 : ∀ (x4 : Int32) (t0 : Int32) (S : ZS) (H : Heap) (locs : List Loc) (ls : Array Slot), X7_signsDo_b105 x1 x2 x4 t0 S Q k5 → va_P D vwCl (zWS k a S) H → va_S (zA a s.heap.size) s.heap H locs → lv_has ls 8 [(0, .ref (a 61)), (1, .int x1), (2, .int x2), (4, .int x4)] → zWi p l e (headSpec wsX7_signsDo rm_X7_signsDo).room s m ([.ref (a 61), .int y1, .int y2] : List Value) below meth c D k a Q H locs (F0 m 105 ls [.int t0]) := by
          intro x4 t0 S H locs ls hm hP hS hl
          unfold X7_signsDo_b105 at hm
          refine lv_istore_n (lv' := [(3, .int t0), (0, .ref (a 61)), (1, .int x1), (2, .int x2), (4, .int x4)]) hx hb dX7_signsDo_105 rfl hl (by decide) rfl (fun ls hl => ?_)
          obtain ⟨x4_106, ex4_106⟩ : ∃ y : Int32, y = x4 + (1 : Int32) := ⟨_, rfl⟩
          have hm := hm x4_106 ex4_106
          refine lv_iinc (v := x4_106) (lv' := [(4, .int x4_106), (3, .int t0), (0, .ref (a 61)), (1, .int x1), (2, .int x2)]) hx hb dX7_signsDo_106 hl (k := 4) rfl (by rw [ex4_106]; rfl) (by decide) rfl (fun ls hl => ?_)
          refine lv_goto (tgt := 5) hx hb dX7_signsDo_109 (by decide) ?_
          exact ih5 t0 x4_106 S _ _ _ hm hP hS (lv_sub hl [2, 3, 4, 1, 0] rfl)
        have b104 : ∀ (x4 : Int32) (S : ZS) (H : Heap) (locs : List Loc) (ls : Array Slot), X7_signsDo_b104 x1 x2 x4 S Q k5 → va_P D vwCl (zWS k a S) H → va_S (zA a s.heap.size) s.heap H locs → lv_has ls 8 [(0, .ref (a 61)), (1, .int x1), (2, .int x2), (4, .int x4)] → zWi p l e (headSpec wsX7_signsDo rm_X7_signsDo).room s m ([.ref (a 61), .int y1, .int y2] : List Value) below meth c D k a Q H locs (F0 m 104 ls []) := by
          intro x4 S H locs ls hm hP hS hl
          unfold X7_signsDo_b104 at hm
          refine lv_iconst (v := (0 : Int32)) hx hb dX7_signsDo_104 (by decide) ?_
          exact b105 x4 (0 : Int32) S _ _ _ hm hP hS (lv_sub hl [0, 1, 2, 3] rfl)
        have b100 : ∀ (x4 : Int32) (S : ZS) (H : Heap) (locs : List Loc) (ls : Array Slot), X7_signsDo_b100 x1 x2 x4 S Q k5 → va_P D vwCl (zWS k a S) H → va_S (zA a s.heap.size) s.heap H locs → lv_has ls 8 [(0, .ref (a 61)), (1, .int x1), (2, .int x2), (4, .int x4)] → zWi p l e (headSpec wsX7_signsDo rm_X7_signsDo).room s m ([.ref (a 61), .int y1, .int y2] : List Value) below meth c D k a Q H locs (F0 m 100 ls []) := by
          intro x4 S H locs ls hm hP hS hl
          unfold X7_signsDo_b100 at hm
          refine lv_iconst (v := (1 : Int32)) hx hb dX7_signsDo_100 (by decide) ?_
          refine lv_goto (tgt := 105) hx hb dX7_signsDo_101 (by decide) ?_
          exact b105 x4 (1 : Int32) S _ _ _ hm hP hS (lv_sub hl [0, 1, 2, 3] rfl)
        refine lv_iload_n hx hb dX7_signsDo_85 rfl (lv_at hl 3 rfl) ?_
        refine lv_if_eq (tgt := 104) hx hb dX7_signsDo_86 (by decide) (fun c_86 => ?_) (fun c_86 => ?_)
        · have hm := hm.1 c_86
          exact b104 x4 S _ _ _ hm hP hS (lv_sub hl [0, 1, 2, 4] rfl)
        · have hm := hm.2 c_86
          refine lv_iload hx hb dX7_signsDo_89 (lv_at hl 6 rfl) ?_
          refine lv_iconst (v := (2 : Int32)) hx hb dX7_signsDo_91 (by decide) ?_
          refine lv_icmp_lt (tgt := 100) hx hb dX7_signsDo_92 (by decide) (fun c_92 => ?_) (fun c_92 => ?_)
          · have hm := hm.1 c_92
            exact b100 x4 S _ _ _ hm hP hS (lv_sub hl [0, 1, 2, 4] rfl)
          · have hm := hm.2 c_92
            refine lv_iload hx hb dX7_signsDo_95 (lv_at hl 5 rfl) ?_
            refine lv_if_ne (tgt := 104) hx hb dX7_signsDo_97 (by decide) (fun c_97 => ?_) (fun c_97 => ?_)
            · have hm := hm.2 c_97
              exact b104 x4 S _ _ _ hm hP hS (lv_sub hl [0, 1, 2, 4] rfl)
            · have hm := hm.1 c_97
              exact b100 x4 S _ _ _ hm hP hS (lv_sub hl [0, 1, 2, 4] rfl)
      have L20 : ∀ (x3 : Int32) (x4 : Int32) (n : Nat) (x5 : Int32) (x6 : Int32) (x7 : Int32) (S : ZS) (H : Heap) (locs : List Loc) (ls : Array Slot), zn (X7_signsDo_L20 x1 x2 x3 x4 Q k5) n (x5, x6, x7, S) → va_P D vwCl (zWS k a S) H → va_S (zA a s.heap.size) s.heap H locs → lv_has ls 8 [(0, .ref (a 61)), (1, .int x1), (2, .int x2), (3, .int x3), (4, .int x4), (5, .int x5), (6, .int x6), (7, .int x7)] → zWi p l e (headSpec wsX7_signsDo rm_X7_signsDo).room s m ([.ref (a 61), .int y1, .int y2] : List Value) below meth c D k a Q H locs (F0 m 20 ls []) := by
        intro x3 x4 n
        induction n with
        | zero =>
          intro x5 x6 x7 S H locs ls hm
          exact hm.elim
        | succ n ih20 =>
          intro x5 x6 x7 S H locs ls hm hP hS hl
          have hm : X7_signsDo_B20 x1 x2 x3 x4 x5 x6 x7 S Q k5 (zn (X7_signsDo_L20 x1 x2 x3 x4 Q k5) n) := hm
          generalize zn (X7_signsDo_L20 x1 x2 x3 x4 Q k5) n = k20 at hm ih20
          unfold X7_signsDo_B20 at hm
          have b54 : ∀ (x6 : Int32) (x7 : Int32) (t0 : Int32) (t1 : Int32) (t2 : Int32) (S : ZS) (H : Heap) (locs : List Loc) (ls : Array Slot), X7_signsDo_b54 x1 x2 x3 x4 x6 x7 t0 t1 t2 S Q k5 k20 → va_P D vwCl (zWS k a S) H → va_S (zA a s.heap.size) s.heap H locs → lv_has ls 8 [(0, .ref (a 61)), (1, .int x1), (2, .int x2), (3, .int x3), (4, .int x4), (6, .int x6), (7, .int x7)] → zWi p l e (headSpec wsX7_signsDo rm_X7_signsDo).room s m ([.ref (a 61), .int y1, .int y2] : List Value) below meth c D k a Q H locs (F0 m 54 ls [.int t0, .int t1, .int t2]) := by
            intro x6 x7 t0 t1 t2 S H locs ls hm hP hS hl
            unfold X7_signsDo_b54 at hm
            have b76 : ∀ (x5 : Int32) (x7 : Int32) (t0 : Int32) (t1 : Int32) (S : ZS) (H : Heap) (locs : List Loc) (ls : Array Slot), X7_signsDo_b76 x1 x2 x3 x4 x5 x7 t0 t1 S Q k5 k20 → va_P D vwCl (zWS k a S) H → va_S (zA a s.heap.size) s.heap H locs → lv_has ls 8 [(0, .ref (a 61)), (1, .int x1), (2, .int x2), (3, .int x3), (4, .int x4), (5, .int x5), (7, .int x7)] → zWi p l e (headSpec wsX7_signsDo rm_X7_signsDo).room s m ([.ref (a 61), .int y1, .int y2] : List Value) below meth c D k a Q H locs (F0 m 76 ls [.int t0, .int t1]) := by
              intro x5 x7 t0 t1 S H locs ls hm hP hS hl
              unfold X7_signsDo_b76 at hm
              refine lv_iadd hx hb dX7_signsDo_76 ?_
              refine lv_topi (fun x6_77 ex6_77 => ?_)
              have hm := hm x6_77 ex6_77
              refine lv_istore (lv' := [(6, .int x6_77), (0, .ref (a 61)), (1, .int x1), (2, .int x2), (3, .int x3), (4, .int x4), (5, .int x5), (7, .int x7)]) hx hb dX7_signsDo_77 hl (by decide) rfl (fun ls hl => ?_)
              obtain ⟨x7_79, ex7_79⟩ : ∃ y : Int32, y = x7 + (1 : Int32) := ⟨_, rfl⟩
              have hm := hm x7_79 ex7_79
              refine lv_iinc (v := x7_79) (lv' := [(7, .int x7_79), (6, .int x6_77), (0, .ref (a 61)), (1, .int x1), (2, .int x2), (3, .int x3), (4, .int x4), (5, .int x5)]) hx hb dX7_signsDo_79 hl (k := 7) rfl (by rw [ex7_79]; rfl) (by decide) rfl (fun ls hl => ?_)
              refine lv_goto (tgt := 20) hx hb dX7_signsDo_82 (by decide) ?_
              exact ih20 x5 x6_77 x7_79 S _ _ _ hm hP hS (lv_sub hl [2, 3, 4, 5, 6, 7, 1, 0] rfl)
            refine lv_imul hx hb dX7_signsDo_54 ?_
            refine lv_iadd hx hb dX7_signsDo_55 ?_
            refine lv_topi (fun x5_56 ex5_56 => ?_)
            have hm := hm x5_56 ex5_56
            refine lv_istore (lv' := [(5, .int x5_56), (0, .ref (a 61)), (1, .int x1), (2, .int x2), (3, .int x3), (4, .int x4), (6, .int x6), (7, .int x7)]) hx hb dX7_signsDo_56 hl (by decide) rfl (fun ls hl => ?_)
            refine lv_iload hx hb dX7_signsDo_58 (lv_at hl 6 rfl) ?_
            refine lv_aload_n hx hb dX7_signsDo_60 rfl (lv_at hl 1 rfl) ?_
            refine lv_iload hx hb dX7_signsDo_61 (lv_at hl 7 rfl) ?_
            refine lv_iload hx hb dX7_signsDo_63 (lv_at hl 5 rfl) ?_
            refine z_cVi (As := [.int x7, .int x4]) (rest := [.int x6]) hF hK hP hS zO_61 rfl rfl (c_X7_coef l D k a hj x7 x4 S _ hm _) (cwV 2 hts gX7_signsDo_X7_coef rfl rfl rfl (by decide +kernel) ⟨Nat.le_of_ble_eq_true rfl, Nat.le_of_ble_eq_true rfl⟩) rfl hl.1 rfl (Nat.le_of_ble_eq_true rfl) dX7_signsDo_65 ⟨Nat.zero_le _, Nat.zero_le _⟩ (fun r_65 S_65 H locs hm hP hS => ?_)
            refine lv_if_eq (tgt := 75) hx hb dX7_signsDo_68 (by decide) (fun c_68 => ?_) (fun c_68 => ?_)
            · have hm := hm.1 c_68
              refine lv_iconst (v := (0 : Int32)) hx hb dX7_signsDo_75 (by decide) ?_
              exact b76 x5_56 x7 (0 : Int32) x6 S_65 _ _ _ hm hP hS (lv_sub hl [1, 2, 3, 4, 5, 0, 7] rfl)
            · have hm := hm.2 c_68
              refine lv_iconst (v := (1 : Int32)) hx hb dX7_signsDo_71 (by decide) ?_
              refine lv_goto (tgt := 76) hx hb dX7_signsDo_72 (by decide) ?_
              exact b76 x5_56 x7 (1 : Int32) x6 S_65 _ _ _ hm hP hS (lv_sub hl [1, 2, 3, 4, 5, 0, 7] rfl)
          refine lv_iload hx hb dX7_signsDo_20 (lv_at hl 7 rfl) ?_
          refine lv_aload_n hx hb dX7_signsDo_22 rfl (lv_at hl 0 rfl) ?_
          refine zg_7_rows hx hb hts i7 hown hK hP (hts _ (List.mem_of_getElem? (i := 1) rfl)) dX7_signsDo_23 ?_
          refine lv_icmp_ge (tgt := 85) hx hb dX7_signsDo_26 (by decide) (fun c_26 => ?_) (fun c_26 => ?_)
          · have hm := hm.1 c_26
            exact b85 x3 x4 x5 x6 S _ _ _ hm hP hS (lv_sub hl [0, 1, 2, 3, 4, 5, 6] rfl)
          · have hm := hm.2 c_26
            refine lv_iload hx hb dX7_signsDo_29 (lv_at hl 5 rfl) ?_
            refine lv_aload_n hx hb dX7_signsDo_31 rfl (lv_at hl 0 rfl) ?_
            refine lv_iload hx hb dX7_signsDo_32 (lv_at hl 7 rfl) ?_
            refine lv_iload hx hb dX7_signsDo_34 (lv_at hl 4 rfl) ?_
            refine z_cVi (As := [.int x7, .int x4]) (rest := [.int x5]) hF hK hP hS zO_61 rfl rfl (c_X7_coef l D k a hj x7 x4 S _ hm _) (cwV 2 hts gX7_signsDo_X7_coef rfl rfl rfl (by decide +kernel) ⟨Nat.le_of_ble_eq_true rfl, Nat.le_of_ble_eq_true rfl⟩) rfl hl.1 rfl (Nat.le_of_ble_eq_true rfl) dX7_signsDo_36 ⟨Nat.zero_le _, Nat.zero_le _⟩ (fun r_36 S_36 H locs hm hP hS => ?_)
            refine lv_iload_n hx hb dX7_signsDo_39 rfl (lv_at hl 1 rfl) ?_
            refine lv_iload hx hb dX7_signsDo_40 (lv_at hl 7 rfl) ?_
            refine lv_ishr hx hb dX7_signsDo_42 ?_
            refine lv_iconst (v := (1 : Int32)) hx hb dX7_signsDo_43 (by decide) ?_
            refine lv_iand hx hb dX7_signsDo_44 ?_
            refine lv_iconst (v := (1 : Int32)) hx hb dX7_signsDo_45 (by decide) ?_
            refine lv_icmp_ne (tgt := 53) hx hb dX7_signsDo_46 (by decide) (fun c_46 => ?_) (fun c_46 => ?_)
            · have hm := hm.2 c_46
              refine lv_iconst (v := (1 : Int32)) hx hb dX7_signsDo_53 (by decide) ?_
              exact b54 x6 x7 (1 : Int32) r_36 x5 S_36 _ _ _ hm hP hS (lv_sub hl [0, 1, 2, 3, 4, 6, 7] rfl)
            · have hm := hm.1 c_46
              refine lv_iconst (v := (-1 : Int32)) hx hb dX7_signsDo_49 (by decide) ?_
              refine lv_goto (tgt := 54) hx hb dX7_signsDo_50 (by decide) ?_
              exact b54 x6 x7 (-1 : Int32) r_36 x5 S_36 _ _ _ hm hP hS (lv_sub hl [0, 1, 2, 3, 4, 6, 7] rfl)
      refine lv_iload hx hb dX7_signsDo_5 (lv_at hl 4 rfl) ?_
      refine lv_iload_n hx hb dX7_signsDo_7 rfl (lv_at hl 2 rfl) ?_
      refine lv_icmp_ge (tgt := 112) hx hb dX7_signsDo_8 (by decide) (fun c_8 => ?_) (fun c_8 => ?_)
      · have hm := hm.1 c_8
        exact b112 x3 S _ _ _ hm hP hS (lv_sub hl [0, 3] rfl)
      · have hm := hm.2 c_8
        refine lv_iconst (v := (0 : Int32)) hx hb dX7_signsDo_11 (by decide) ?_
        refine lv_istore (lv' := [(5, .int (0 : Int32)), (0, .ref (a 61)), (1, .int x1), (2, .int x2), (3, .int x3), (4, .int x4)]) hx hb dX7_signsDo_12 hl (by decide) rfl (fun ls hl => ?_)
        refine lv_iconst (v := (0 : Int32)) hx hb dX7_signsDo_14 (by decide) ?_
        refine lv_istore (lv' := [(6, .int (0 : Int32)), (5, .int (0 : Int32)), (0, .ref (a 61)), (1, .int x1), (2, .int x2), (3, .int x3), (4, .int x4)]) hx hb dX7_signsDo_15 hl (by decide) rfl (fun ls hl => ?_)
        refine lv_iconst (v := (0 : Int32)) hx hb dX7_signsDo_17 (by decide) ?_
        refine lv_istore (lv' := [(7, .int (0 : Int32)), (6, .int (0 : Int32)), (5, .int (0 : Int32)), (0, .ref (a 61)), (1, .int x1), (2, .int x2), (3, .int x3), (4, .int x4)]) hx hb dX7_signsDo_18 hl (by decide) rfl (fun ls hl => ?_)
        obtain ⟨n20, hm⟩ := hm
        exact L20 x3 x4 n20 (0 : Int32) (0 : Int32) (0 : Int32) S _ _ _ hm hP hS (lv_sub hl [3, 4, 5, 6, 7, 2, 1, 0] rfl)
  unfold X7_signsDo at hm
  refine lv_iconst (v := (1 : Int32)) hx hb dX7_signsDo_0 (by decide) ?_
  refine lv_istore_n (lv' := [(3, .int (1 : Int32)), (0, .ref (a 61)), (1, .int y1), (2, .int y2)]) hx hb dX7_signsDo_1 rfl hl (by decide) rfl (fun ls hl => ?_)
  refine lv_iconst (v := (0 : Int32)) hx hb dX7_signsDo_2 (by decide) ?_
  refine lv_istore (lv' := [(4, .int (0 : Int32)), (3, .int (1 : Int32)), (0, .ref (a 61)), (1, .int y1), (2, .int y2)]) hx hb dX7_signsDo_3 hl (by decide) rfl (fun ls hl => ?_)
  obtain ⟨n5, hm⟩ := hm
  exact L5 y1 y2 n5 (1 : Int32) (0 : Int32) S _ _ _ hm hP hS (lv_sub hl [2, 3, 4, 1, 0] rfl)

abbrev rm_X7_anySigns : Room := { frames := 2, cells := 0, slots := 0, locals := 49 }
def X7_anySigns_b31 (x2 : Int32) (S : ZS) (Q : Int32 → ZS → Prop) : Prop :=
  zbit x2 ∧ Q x2 S
def X7_anySigns_B4 (x1 : Int32) (x2 : Int32) (x3 : Int32) (S : ZS) (Q : Int32 → ZS → Prop) (k4 : Int32 × Int32 × ZS → Prop) : Prop :=
  (((1 : Int32) <<< ((S.1 61 2) &&& 31)) ≤ x3 → X7_anySigns_b31 x2 S Q) ∧ (¬ ((1 : Int32) <<< ((S.1 61 2) &&& 31)) ≤ x3 → (x2 = 0 → X7_signsDo x3 x1 S (fun r_21 S_21 => ∀ x3_25 : Int32, x3_25 = x3 + (1 : Int32) → k4 (r_21, x3_25, S_21))) ∧ (¬ x2 = 0 → X7_anySigns_b31 x2 S Q))
def X7_anySigns_L4 (x1 : Int32) (Q : Int32 → ZS → Prop) : (Int32 × Int32 × ZS) → ((Int32 × Int32 × ZS) → Prop) → Prop := fun st k4 => X7_anySigns_B4 x1 st.1 st.2.1 st.2.2 Q k4
def X7_anySigns (y1 : Int32) (S : ZS) (Q : Int32 → ZS → Prop) : Prop :=
  zl (X7_anySigns_L4 y1 Q) ((0 : Int32), (0 : Int32), S)
set_option maxHeartbeats 4000000 in
set_option maxRecDepth 100000 in
theorem c_X7_anySigns (l : Launch) (D : va_G) (k : Nat → ClassId) (a : Nat → Nat) (hj : zDj a) (y1 : Int32) (S : ZS) (Q : Int32 → ZS → Prop) (hm : X7_anySigns y1 S Q) (sz : Nat) : Met l yX7_anySigns wsX7_anySigns rm_X7_anySigns (zPc D k a [.ref (a 61), .int y1] S sz) (va_Qi Q (zB D k a) (zA a sz)) 0 0 (zA a sz) := by
  refine Met.ofW (cc := cX7_anySigns) (maxL := 4) (ret := (some .boolean)) (by decide) rfl ?_
  intro p e s m args below meth c s₁ B hml hv
  obtain ⟨rfl, hsz, hP, hK⟩ := hv
  have hx := B.exec
  have hb := B.bytes
  have hr := B.returns
  have hts := atoms_spec (ws := wsX7_anySigns) B.pre
  have hown : s.vm.findClass RX7 = some m.cls := findClass_of_methodNamed B.named
  have hlocks := B.notSynchronized
  subst hsz
  have hS : va_S (zA a s.heap.size) s.heap s.heap [] := va_S.rf
  have hF : CallFix p m c cX7_anySigns 4 s _ wsX7_anySigns RX7 := ⟨hx, hb, hml, hown, hts⟩
  have i7 : ∀ w ∈ wsX70, w ∈ wsX7_anySigns := fun _ h => (List.mem_cons_of_mem _ (List.mem_append_right _ h))
  have hl := lv_entry ([.ref (a 61), .int y1]) (n := 4) (Nat.le_of_ble_eq_true rfl)
  rw [lg_entry_eq]
  generalize (lg_sl ([.ref (a 61), .int y1]) ++ List.replicate (4 - (lg_sl ([.ref (a 61), .int y1])).length) Slot.unset).toArray = ls at hl ⊢
  have hl : lv_has ls 4 [(0, .ref (a 61)), (1, .int y1)] := hl
  have b31 : ∀ (x2 : Int32) (S : ZS) (H : Heap) (locs : List Loc) (ls : Array Slot), X7_anySigns_b31 x2 S Q → va_P D vwCl (zWS k a S) H → va_S (zA a s.heap.size) s.heap H locs → lv_has ls 4 [(0, .ref (a 61)), (2, .int x2)] → zWi p l e (headSpec wsX7_anySigns rm_X7_anySigns).room s m ([.ref (a 61), .int y1] : List Value) below meth c D k a Q H locs (F0 m 31 ls []) := by
    intro x2 S H locs ls hm hP hS hl
    unfold X7_anySigns_b31 at hm
    refine lv_iload_n hx hb dX7_anySigns_31 rfl (lv_at hl 1 rfl) ?_
    exact z_retz hx hb hr hlocks hP hS hm dX7_anySigns_32
  have L4 : ∀ (x1 : Int32) (n : Nat) (x2 : Int32) (x3 : Int32) (S : ZS) (H : Heap) (locs : List Loc) (ls : Array Slot), zn (X7_anySigns_L4 x1 Q) n (x2, x3, S) → va_P D vwCl (zWS k a S) H → va_S (zA a s.heap.size) s.heap H locs → lv_has ls 4 [(0, .ref (a 61)), (1, .int x1), (2, .int x2), (3, .int x3)] → zWi p l e (headSpec wsX7_anySigns rm_X7_anySigns).room s m ([.ref (a 61), .int y1] : List Value) below meth c D k a Q H locs (F0 m 4 ls []) := by
    intro x1 n
    induction n with
    | zero =>
      intro x2 x3 S H locs ls hm
      exact hm.elim
    | succ n ih4 =>
      intro x2 x3 S H locs ls hm hP hS hl
      have hm : X7_anySigns_B4 x1 x2 x3 S Q (zn (X7_anySigns_L4 x1 Q) n) := hm
      generalize zn (X7_anySigns_L4 x1 Q) n = k4 at hm ih4
      unfold X7_anySigns_B4 at hm
      refine lv_iload_n hx hb dX7_anySigns_4 rfl (lv_at hl 3 rfl) ?_
      refine lv_iconst (v := (1 : Int32)) hx hb dX7_anySigns_5 (by decide) ?_
      refine lv_aload_n hx hb dX7_anySigns_6 rfl (lv_at hl 0 rfl) ?_
      refine zg_7_rows hx hb hts i7 hown hK hP (hts _ (List.mem_of_getElem? (i := 1) rfl)) dX7_anySigns_7 ?_
      refine lv_ishl hx hb dX7_anySigns_10 ?_
      refine lv_icmp_ge (tgt := 31) hx hb dX7_anySigns_11 (by decide) (fun c_11 => ?_) (fun c_11 => ?_)
      · have hm := hm.1 c_11
        exact b31 x2 S _ _ _ hm hP hS (lv_sub hl [0, 2] rfl)
      · have hm := hm.2 c_11
        refine lv_iload_n hx hb dX7_anySigns_14 rfl (lv_at hl 2 rfl) ?_
        refine lv_if_ne (tgt := 31) hx hb dX7_anySigns_15 (by decide) (fun c_15 => ?_) (fun c_15 => ?_)
        · have hm := hm.2 c_15
          exact b31 x2 S _ _ _ hm hP hS (lv_sub hl [0, 2] rfl)
        · have hm := hm.1 c_15
          refine lv_aload_n hx hb dX7_anySigns_18 rfl (lv_at hl 0 rfl) ?_
          refine lv_iload_n hx hb dX7_anySigns_19 rfl (lv_at hl 3 rfl) ?_
          refine lv_iload_n hx hb dX7_anySigns_20 rfl (lv_at hl 1 rfl) ?_
          refine z_cVi (As := [.int x3, .int x1]) (rest := []) hF hK hP hS zO_61 rfl rfl (c_X7_signsDo l D k a hj x3 x1 S _ hm _) (cwV 2 hts gX7_anySigns_X7_signsDo rfl rfl rfl (by decide +kernel) ⟨Nat.le_of_ble_eq_true rfl, Nat.le_of_ble_eq_true rfl⟩) rfl hl.1 rfl (Nat.le_of_ble_eq_true rfl) dX7_anySigns_21 ⟨Nat.zero_le _, Nat.zero_le _⟩ (fun r_21 S_21 H locs hm hP hS => ?_)
          refine lv_istore_n (lv' := [(2, .int r_21), (0, .ref (a 61)), (1, .int x1), (3, .int x3)]) hx hb dX7_anySigns_24 rfl hl (by decide) rfl (fun ls hl => ?_)
          obtain ⟨x3_25, ex3_25⟩ : ∃ y : Int32, y = x3 + (1 : Int32) := ⟨_, rfl⟩
          have hm := hm x3_25 ex3_25
          refine lv_iinc (v := x3_25) (lv' := [(3, .int x3_25), (2, .int r_21), (0, .ref (a 61)), (1, .int x1)]) hx hb dX7_anySigns_25 hl (k := 3) rfl (by rw [ex3_25]; rfl) (by decide) rfl (fun ls hl => ?_)
          refine lv_goto (tgt := 4) hx hb dX7_anySigns_28 (by decide) ?_
          exact ih4 r_21 x3_25 S_21 _ _ _ hm hP hS (lv_sub hl [2, 3, 1, 0] rfl)
  unfold X7_anySigns at hm
  refine lv_iconst (v := (0 : Int32)) hx hb dX7_anySigns_0 (by decide) ?_
  refine lv_istore_n (lv' := [(2, .int (0 : Int32)), (0, .ref (a 61)), (1, .int y1)]) hx hb dX7_anySigns_1 rfl hl (by decide) rfl (fun ls hl => ?_)
  refine lv_iconst (v := (0 : Int32)) hx hb dX7_anySigns_2 (by decide) ?_
  refine lv_istore_n (lv' := [(3, .int (0 : Int32)), (2, .int (0 : Int32)), (0, .ref (a 61)), (1, .int y1)]) hx hb dX7_anySigns_3 rfl hl (by decide) rfl (fun ls hl => ?_)
  obtain ⟨n4, hm⟩ := hm
  exact L4 y1 n4 (0 : Int32) (0 : Int32) S _ _ _ hm hP hS (lv_sub hl [2, 3, 1, 0] rfl)

