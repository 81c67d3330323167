abbrev rm_X6_clear : Room := { frames := 2, cells := 0, slots := 0, locals := 44 }
def X6_clear (S : ZS) (Q : Int32 → ZS → Prop) : Prop :=
  ∀ S_2 : ZS, S_2 = zu S 0 7 (0 : Int32) → ∀ x1_12 : Int32, x1_12 = (S_2.1 1 0) → X5_wipe S_2 (fun S_17 => Q x1_12 S_17)
set_option maxHeartbeats 4000000 in
set_option maxRecDepth 100000 in
theorem c_X6_clear (l : Launch) (D : va_G) (k : Nat → ClassId) (a : Nat → Nat) (hj : zDj a) (S : ZS) (Q : Int32 → ZS → Prop) (hm : X6_clear S Q) (sz : Nat) : Met l yX6_clear wsX6_clear rm_X6_clear (zPc D k a [.ref (a 0)] S sz) (va_Qi Q (zB D k a) (zA a sz)) 0 0 (zA a sz) := by
  refine Met.ofW (cc := cX6_clear) (maxL := 2) (ret := (some .int)) (by decide) rfl ?_
  intro p e s m args below meth c s₁ B hml hv
  obtain ⟨rfl, hsz, hP, hK⟩ := hv
  have hx := B.exec
  have hb := B.bytes
  have hr := B.returns
  have hts := atoms_spec (ws := wsX6_clear) B.pre
  have hown : s.vm.findClass RX6 = some m.cls := findClass_of_methodNamed B.named
  have hlocks := B.notSynchronized
  subst hsz
  have hS : va_S (zA a s.heap.size) s.heap s.heap [] := va_S.rf
  have hF : CallFix p m c cX6_clear 2 s _ wsX6_clear RX6 := ⟨hx, hb, hml, hown, hts⟩
  have i5 : ∀ w ∈ wsX50, w ∈ wsX6_clear := fun _ h => (List.mem_cons_of_mem _ (List.mem_append_right _ h))
  have i6 : ∀ w ∈ wsX60, w ∈ wsX6_clear := fun _ h => (List.mem_cons_of_mem _ (List.mem_append_left _ (List.mem_append_right _ h)))
  have hl := lv_entry ([.ref (a 0)]) (n := 2) (Nat.le_of_ble_eq_true rfl)
  rw [lg_entry_eq]
  generalize (lg_sl ([.ref (a 0)]) ++ List.replicate (2 - (lg_sl ([.ref (a 0)])).length) Slot.unset).toArray = ls at hl ⊢
  have hl : lv_has ls 2 [(0, .ref (a 0))] := hl
  unfold X6_clear at hm
  refine lv_aload_n hx hb dX6_clear_0 rfl (lv_at hl 0 rfl) ?_
  refine lv_iconst (v := (0 : Int32)) hx hb dX6_clear_1 (by decide) ?_
  refine zp_6_solved hx hb hts i6 hown hj hK hP hS (hts _ (List.mem_of_getElem? (i := 1) rfl)) dX6_clear_2 (fun H locs hP hS => ?_)
  obtain ⟨S_2, eS_2⟩ : ∃ z : ZS, z = zu S 0 7 (0 : Int32) := ⟨_, rfl⟩
  rw [← eS_2] at hP
  have hm := hm S_2 eS_2
  refine lv_aload_n hx hb dX6_clear_5 rfl (lv_at hl 0 rfl) ?_
  refine zg_6_whole hx hb hts i6 hown hK hP (hts _ (List.mem_of_getElem? (i := 2) rfl)) dX6_clear_6 ?_
  refine zg_5_columns hx hb hts i5 hown hK hP (hts _ (List.mem_of_getElem? (i := 3) rfl)) dX6_clear_9 ?_
  refine lv_topi (fun x1_12 ex1_12 => ?_)
  have hm := hm x1_12 ex1_12
  refine lv_istore_n (lv' := [(1, .int x1_12), (0, .ref (a 0))]) hx hb dX6_clear_12 rfl hl (by decide) rfl (fun ls hl => ?_)
  refine lv_aload_n hx hb dX6_clear_13 rfl (lv_at hl 1 rfl) ?_
  refine zg_6_whole hx hb hts i6 hown hK hP (hts _ (List.mem_of_getElem? (i := 2) rfl)) dX6_clear_14 ?_
  refine z_cVv (As := []) (rest := []) hF hK hP hS zO_1 rfl rfl (c_X5_wipe l D k a hj  S_2 _ hm _) (cwV 0 hts gX6_clear_X5_wipe rfl rfl rfl (by decide +kernel) ⟨Nat.le_of_ble_eq_true rfl, Nat.le_of_ble_eq_true rfl⟩) rfl hl.1 rfl (Nat.le_of_ble_eq_true rfl) dX6_clear_17 ⟨Nat.zero_le _, Nat.zero_le _⟩ (fun S_17 H locs hm hP hS => ?_)
  refine lv_iload_n hx hb dX6_clear_20 rfl (lv_at hl 0 rfl) ?_
  exact z_reti hx hb hr hlocks hP hS hm dX6_clear_21

abbrev rm_X6_parts : Room := { frames := 4, cells := 0, slots := 0, locals := 92 }
def X6_parts (S : ZS) (Q : Int32 → ZS → Prop) : Prop :=
  X4_findParts S (fun r_4 S_4 => Q r_4 S_4)
set_option maxHeartbeats 4000000 in
set_option maxRecDepth 100000 in
theorem c_X6_parts (l : Launch) (D : va_G) (k : Nat → ClassId) (a : Nat → Nat) (hj : zDj a) (S : ZS) (Q : Int32 → ZS → Prop) (hm : X6_parts S Q) (sz : Nat) : Met l yX6_parts wsX6_parts rm_X6_parts (zPc D k a [.ref (a 0)] S sz) (va_Qi Q (zB D k a) (zA a sz)) 0 0 (zA a sz) := by
  refine Met.ofW (cc := cX6_parts) (maxL := 1) (ret := (some .int)) (by decide) rfl ?_
  intro p e s m args below meth c s₁ B hml hv
  obtain ⟨rfl, hsz, hP, hK⟩ := hv
  have hx := B.exec
  have hb := B.bytes
  have hr := B.returns
  have hts := atoms_spec (ws := wsX6_parts) B.pre
  have hown : s.vm.findClass RX6 = some m.cls := findClass_of_methodNamed B.named
  have hlocks := B.notSynchronized
  subst hsz
  have hS : va_S (zA a s.heap.size) s.heap s.heap [] := va_S.rf
  have hF : CallFix p m c cX6_parts 1 s _ wsX6_parts RX6 := ⟨hx, hb, hml, hown, hts⟩
  have i6 : ∀ w ∈ wsX60, w ∈ wsX6_parts := fun _ h => (List.mem_cons_of_mem _ (List.mem_append_left _ (List.mem_append_left _ (List.mem_append_right _ h))))
  have hl := lv_entry ([.ref (a 0)]) (n := 1) (Nat.le_of_ble_eq_true rfl)
  rw [lg_entry_eq]
  generalize (lg_sl ([.ref (a 0)]) ++ List.replicate (1 - (lg_sl ([.ref (a 0)])).length) Slot.unset).toArray = ls at hl ⊢
  have hl : lv_has ls 1 [(0, .ref (a 0))] := hl
  unfold X6_parts at hm
  refine lv_aload_n hx hb dX6_parts_0 rfl (lv_at hl 0 rfl) ?_
  refine zg_6_shape hx hb hts i6 hown hK hP (hts _ (List.mem_of_getElem? (i := 1) rfl)) dX6_parts_1 ?_
  refine z_cVi (As := []) (rest := []) hF hK hP hS zO_2 rfl rfl (c_X4_findParts l D k a hj  S _ hm _) (cwV 0 hts gX6_parts_X4_findParts rfl rfl rfl (by decide +kernel) ⟨Nat.le_of_ble_eq_true rfl, Nat.le_of_ble_eq_true rfl⟩) rfl hl.1 rfl (Nat.le_of_ble_eq_true rfl) dX6_parts_4 ⟨Nat.zero_le _, Nat.zero_le _⟩ (fun r_4 S_4 H locs hm hP hS => ?_)
  exact z_reti hx hb hr hlocks hP hS hm dX6_parts_7

abbrev rm_X6_flow : Room := { frames := 4, cells := 0, slots := 0, locals := 92 }
def X6_flow (S : ZS) (Q : Int32 → ZS → Prop) : Prop :=
  X4_findSigns S (fun r_4 S_4 => Q r_4 S_4)
set_option maxHeartbeats 4000000 in
set_option maxRecDepth 100000 in
theorem c_X6_flow (l : Launch) (D : va_G) (k : Nat → ClassId) (a : Nat → Nat) (hj : zDj a) (S : ZS) (Q : Int32 → ZS → Prop) (hm : X6_flow S Q) (sz : Nat) : Met l yX6_flow wsX6_flow rm_X6_flow (zPc D k a [.ref (a 0)] S sz) (va_Qi Q (zB D k a) (zA a sz)) 0 0 (zA a sz) := by
  refine Met.ofW (cc := cX6_flow) (maxL := 1) (ret := (some .int)) (by decide) rfl ?_
  intro p e s m args below meth c s₁ B hml hv
  obtain ⟨rfl, hsz, hP, hK⟩ := hv
  have hx := B.exec
  have hb := B.bytes
  have hr := B.returns
  have hts := atoms_spec (ws := wsX6_flow) B.pre
  have hown : s.vm.findClass RX6 = some m.cls := findClass_of_methodNamed B.named
  have hlocks := B.notSynchronized
  subst hsz
  have hS : va_S (zA a s.heap.size) s.heap s.heap [] := va_S.rf
  have hF : CallFix p m c cX6_flow 1 s _ wsX6_flow RX6 := ⟨hx, hb, hml, hown, hts⟩
  have i6 : ∀ w ∈ wsX60, w ∈ wsX6_flow := fun _ h => (List.mem_cons_of_mem _ (List.mem_append_left _ (List.mem_append_left _ (List.mem_append_right _ h))))
  have hl := lv_entry ([.ref (a 0)]) (n := 1) (Nat.le_of_ble_eq_true rfl)
  rw [lg_entry_eq]
  generalize (lg_sl ([.ref (a 0)]) ++ List.replicate (1 - (lg_sl ([.ref (a 0)])).length) Slot.unset).toArray = ls at hl ⊢
  have hl : lv_has ls 1 [(0, .ref (a 0))] := hl
  unfold X6_flow at hm
  refine lv_aload_n hx hb dX6_flow_0 rfl (lv_at hl 0 rfl) ?_
  refine zg_6_shape hx hb hts i6 hown hK hP (hts _ (List.mem_of_getElem? (i := 1) rfl)) dX6_flow_1 ?_
  refine z_cVi (As := []) (rest := []) hF hK hP hS zO_2 rfl rfl (c_X4_findSigns l D k a hj  S _ hm _) (cwV 0 hts gX6_flow_X4_findSigns rfl rfl rfl (by decide +kernel) ⟨Nat.le_of_ble_eq_true rfl, Nat.le_of_ble_eq_true rfl⟩) rfl hl.1 rfl (Nat.le_of_ble_eq_true rfl) dX6_flow_4 ⟨Nat.zero_le _, Nat.zero_le _⟩ (fun r_4 S_4 H locs hm hP hS => ?_)
  exact z_reti hx hb hr hlocks hP hS hm dX6_flow_7

abbrev rm_X6_intervals : Room := { frames := 2, cells := 0, slots := 0, locals := 46 }
def X6_intervals (S : ZS) (Q : Int32 → ZS → Prop) : Prop :=
  X4_firstColumnNoInterval S (fun r_4 S_4 => Q r_4 S_4)
set_option maxHeartbeats 4000000 in
set_option maxRecDepth 100000 in
theorem c_X6_intervals (l : Launch) (D : va_G) (k : Nat → ClassId) (a : Nat → Nat) (hj : zDj a) (S : ZS) (Q : Int32 → ZS → Prop) (hm : X6_intervals S Q) (sz : Nat) : Met l yX6_intervals wsX6_intervals rm_X6_intervals (zPc D k a [.ref (a 0)] S sz) (va_Qi Q (zB D k a) (zA a sz)) 0 0 (zA a sz) := by
  refine Met.ofW (cc := cX6_intervals) (maxL := 1) (ret := (some .int)) (by decide) rfl ?_
  intro p e s m args below meth c s₁ B hml hv
  obtain ⟨rfl, hsz, hP, hK⟩ := hv
  have hx := B.exec
  have hb := B.bytes
  have hr := B.returns
  have hts := atoms_spec (ws := wsX6_intervals) B.pre
  have hown : s.vm.findClass RX6 = some m.cls := findClass_of_methodNamed B.named
  have hlocks := B.notSynchronized
  subst hsz
  have hS : va_S (zA a s.heap.size) s.heap s.heap [] := va_S.rf
  have hF : CallFix p m c cX6_intervals 1 s _ wsX6_intervals RX6 := ⟨hx, hb, hml, hown, hts⟩
  have i6 : ∀ w ∈ wsX60, w ∈ wsX6_intervals := fun _ h => (List.mem_cons_of_mem _ (List.mem_append_left _ (List.mem_append_left _ (List.mem_append_right _ h))))
  have hl := lv_entry ([.ref (a 0)]) (n := 1) (Nat.le_of_ble_eq_true rfl)
  rw [lg_entry_eq]
  generalize (lg_sl ([.ref (a 0)]) ++ List.replicate (1 - (lg_sl ([.ref (a 0)])).length) Slot.unset).toArray = ls at hl ⊢
  have hl : lv_has ls 1 [(0, .ref (a 0))] := hl
  unfold X6_intervals at hm
  refine lv_aload_n hx hb dX6_intervals_0 rfl (lv_at hl 0 rfl) ?_
  refine zg_6_shape hx hb hts i6 hown hK hP (hts _ (List.mem_of_getElem? (i := 1) rfl)) dX6_intervals_1 ?_
  refine z_cVi (As := []) (rest := []) hF hK hP hS zO_2 rfl rfl (c_X4_firstColumnNoInterval l D k a hj  S _ hm _) (cwV 0 hts gX6_intervals_X4_firstColumnNoInterval rfl rfl rfl (by decide +kernel) ⟨Nat.le_of_ble_eq_true rfl, Nat.le_of_ble_eq_true rfl⟩) rfl hl.1 rfl (Nat.le_of_ble_eq_true rfl) dX6_intervals_4 ⟨Nat.zero_le _, Nat.zero_le _⟩ (fun r_4 S_4 H locs hm hP hS => ?_)
  exact z_reti hx hb hr hlocks hP hS hm dX6_intervals_7

abbrev rm_X6_nature : Room := { frames := 4, cells := 0, slots := 0, locals := 93 }
def X6_nature (S : ZS) (Q : Int32 → ZS → Prop) : Prop :=
  X4_firstSetNotParted S (fun r_4 S_4 => Q r_4 S_4)
set_option maxHeartbeats 4000000 in
set_option maxRecDepth 100000 in
theorem c_X6_nature (l : Launch) (D : va_G) (k : Nat → ClassId) (a : Nat → Nat) (hj : zDj a) (S : ZS) (Q : Int32 → ZS → Prop) (hm : X6_nature S Q) (sz : Nat) : Met l yX6_nature wsX6_nature rm_X6_nature (zPc D k a [.ref (a 0)] S sz) (va_Qi Q (zB D k a) (zA a sz)) 0 0 (zA a sz) := by
  refine Met.ofW (cc := cX6_nature) (maxL := 1) (ret := (some .int)) (by decide) rfl ?_
  intro p e s m args below meth c s₁ B hml hv
  obtain ⟨rfl, hsz, hP, hK⟩ := hv
  have hx := B.exec
  have hb := B.bytes
  have hr := B.returns
  have hts := atoms_spec (ws := wsX6_nature) B.pre
  have hown : s.vm.findClass RX6 = some m.cls := findClass_of_methodNamed B.named
  have hlocks := B.notSynchronized
  subst hsz
  have hS : va_S (zA a s.heap.size) s.heap s.heap [] := va_S.rf
  have hF : CallFix p m c cX6_nature 1 s _ wsX6_nature RX6 := ⟨hx, hb, hml, hown, hts⟩
  have i6 : ∀ w ∈ wsX60, w ∈ wsX6_nature := fun _ h => (List.mem_cons_of_mem _ (List.mem_append_left _ (List.mem_append_left _ (List.mem_append_right _ h))))
  have hl := lv_entry ([.ref (a 0)]) (n := 1) (Nat.le_of_ble_eq_true rfl)
  rw [lg_entry_eq]
  generalize (lg_sl ([.ref (a 0)]) ++ List.replicate (1 - (lg_sl ([.ref (a 0)])).length) Slot.unset).toArray = ls at hl ⊢
  have hl : lv_has ls 1 [(0, .ref (a 0))] := hl
  unfold X6_nature at hm
  refine lv_aload_n hx hb dX6_nature_0 rfl (lv_at hl 0 rfl) ?_
  refine zg_6_shape hx hb hts i6 hown hK hP (hts _ (List.mem_of_getElem? (i := 1) rfl)) dX6_nature_1 ?_
  refine z_cVi (As := []) (rest := []) hF hK hP hS zO_2 rfl rfl (c_X4_firstSetNotParted l D k a hj  S _ hm _) (cwV 0 hts gX6_nature_X4_firstSetNotParted rfl rfl rfl (by decide +kernel) ⟨Nat.le_of_ble_eq_true rfl, Nat.le_of_ble_eq_true rfl⟩) rfl hl.1 rfl (Nat.le_of_ble_eq_true rfl) dX6_nature_4 ⟨Nat.zero_le _, Nat.zero_le _⟩ (fun r_4 S_4 H locs hm hP hS => ?_)
  exact z_reti hx hb hr hlocks hP hS hm dX6_nature_7

abbrev rm_X6_knapsack : Room := { frames := 1, cells := 0, slots := 0, locals := 21 }
def X6_knapsack (S : ZS) (Q : Int32 → ZS → Prop) : Prop :=
  X4_isKnapsack S (fun r_4 S_4 => zbit r_4 ∧ Q r_4 S_4)
set_option maxHeartbeats 4000000 in
set_option maxRecDepth 100000 in
theorem c_X6_knapsack (l : Launch) (D : va_G) (k : Nat → ClassId) (a : Nat → Nat) (hj : zDj a) (S : ZS) (Q : Int32 → ZS → Prop) (hm : X6_knapsack S Q) (sz : Nat) : Met l yX6_knapsack wsX6_knapsack rm_X6_knapsack (zPc D k a [.ref (a 0)] S sz) (va_Qi Q (zB D k a) (zA a sz)) 0 0 (zA a sz) := by
  refine Met.ofW (cc := cX6_knapsack) (maxL := 1) (ret := (some .boolean)) (by decide) rfl ?_
  intro p e s m args below meth c s₁ B hml hv
  obtain ⟨rfl, hsz, hP, hK⟩ := hv
  have hx := B.exec
  have hb := B.bytes
  have hr := B.returns
  have hts := atoms_spec (ws := wsX6_knapsack) B.pre
  have hown : s.vm.findClass RX6 = some m.cls := findClass_of_methodNamed B.named
  have hlocks := B.notSynchronized
  subst hsz
  have hS : va_S (zA a s.heap.size) s.heap s.heap [] := va_S.rf
  have hF : CallFix p m c cX6_knapsack 1 s _ wsX6_knapsack RX6 := ⟨hx, hb, hml, hown, hts⟩
  have i6 : ∀ w ∈ wsX60, w ∈ wsX6_knapsack := fun _ h => (List.mem_cons_of_mem _ (List.mem_append_left _ (List.mem_append_left _ (List.mem_append_right _ h))))
  have hl := lv_entry ([.ref (a 0)]) (n := 1) (Nat.le_of_ble_eq_true rfl)
  rw [lg_entry_eq]
  generalize (lg_sl ([.ref (a 0)]) ++ List.replicate (1 - (lg_sl ([.ref (a 0)])).length) Slot.unset).toArray = ls at hl ⊢
  have hl : lv_has ls 1 [(0, .ref (a 0))] := hl
  unfold X6_knapsack at hm
  refine lv_aload_n hx hb dX6_knapsack_0 rfl (lv_at hl 0 rfl) ?_
  refine zg_6_shape hx hb hts i6 hown hK hP (hts _ (List.mem_of_getElem? (i := 1) rfl)) dX6_knapsack_1 ?_
  refine z_cVi (As := []) (rest := []) hF hK hP hS zO_2 rfl rfl (c_X4_isKnapsack l D k a hj  S _ hm _) (cwV 0 hts gX6_knapsack_X4_isKnapsack rfl rfl rfl (by decide +kernel) ⟨Nat.le_of_ble_eq_true rfl, Nat.le_of_ble_eq_true rfl⟩) rfl hl.1 rfl (Nat.le_of_ble_eq_true rfl) dX6_knapsack_4 ⟨Nat.zero_le _, Nat.zero_le _⟩ (fun r_4 S_4 H locs hm hP hS => ?_)
  exact z_retz hx hb hr hlocks hP hS hm dX6_knapsack_7

abbrev rm_X6_matching : Room := { frames := 5, cells := 0, slots := 0, locals := 113 }
def X6_matching (S : ZS) (Q : Int32 → ZS → Prop) : Prop :=
  X4_isMatching S (fun r_4 S_4 => zbit r_4 ∧ Q r_4 S_4)
set_option maxHeartbeats 4000000 in
set_option maxRecDepth 100000 in
theorem c_X6_matching (l : Launch) (D : va_G) (k : Nat → ClassId) (a : Nat → Nat) (hj : zDj a) (S : ZS) (Q : Int32 → ZS → Prop) (hm : X6_matching S Q) (sz : Nat) : Met l yX6_matching wsX6_matching rm_X6_matching (zPc D k a [.ref (a 0)] S sz) (va_Qi Q (zB D k a) (zA a sz)) 0 0 (zA a sz) := by
  refine Met.ofW (cc := cX6_matching) (maxL := 1) (ret := (some .boolean)) (by decide) rfl ?_
  intro p e s m args below meth c s₁ B hml hv
  obtain ⟨rfl, hsz, hP, hK⟩ := hv
  have hx := B.exec
  have hb := B.bytes
  have hr := B.returns
  have hts := atoms_spec (ws := wsX6_matching) B.pre
  have hown : s.vm.findClass RX6 = some m.cls := findClass_of_methodNamed B.named
  have hlocks := B.notSynchronized
  subst hsz
  have hS : va_S (zA a s.heap.size) s.heap s.heap [] := va_S.rf
  have hF : CallFix p m c cX6_matching 1 s _ wsX6_matching RX6 := ⟨hx, hb, hml, hown, hts⟩
  have i6 : ∀ w ∈ wsX60, w ∈ wsX6_matching := fun _ h => (List.mem_cons_of_mem _ (List.mem_append_left _ (List.mem_append_left _ (List.mem_append_right _ h))))
  have hl := lv_entry ([.ref (a 0)]) (n := 1) (Nat.le_of_ble_eq_true rfl)
  rw [lg_entry_eq]
  generalize (lg_sl ([.ref (a 0)]) ++ List.replicate (1 - (lg_sl ([.ref (a 0)])).length) Slot.unset).toArray = ls at hl ⊢
  have hl : lv_has ls 1 [(0, .ref (a 0))] := hl
  unfold X6_matching at hm
  refine lv_aload_n hx hb dX6_matching_0 rfl (lv_at hl 0 rfl) ?_
  refine zg_6_shape hx hb hts i6 hown hK hP (hts _ (List.mem_of_getElem? (i := 1) rfl)) dX6_matching_1 ?_
  refine z_cVi (As := []) (rest := []) hF hK hP hS zO_2 rfl rfl (c_X4_isMatching l D k a hj  S _ hm _) (cwV 0 hts gX6_matching_X4_isMatching rfl rfl rfl (by decide +kernel) ⟨Nat.le_of_ble_eq_true rfl, Nat.le_of_ble_eq_true rfl⟩) rfl hl.1 rfl (Nat.le_of_ble_eq_true rfl) dX6_matching_4 ⟨Nat.zero_le _, Nat.zero_le _⟩ (fun r_4 S_4 H locs hm hP hS => ?_)
  exact z_retz hx hb hr hlocks hP hS hm dX6_matching_7

abbrev rm_X6_way : Room := { frames := 5, cells := 0, slots := 0, locals := 113 }
def X6_way (S : ZS) (Q : Int32 → ZS → Prop) : Prop :=
  X4_isWay S (fun r_4 S_4 => zbit r_4 ∧ Q r_4 S_4)
set_option maxHeartbeats 4000000 in
set_option maxRecDepth 100000 in
theorem c_X6_way (l : Launch) (D : va_G) (k : Nat → ClassId) (a : Nat → Nat) (hj : zDj a) (S : ZS) (Q : Int32 → ZS → Prop) (hm : X6_way S Q) (sz : Nat) : Met l yX6_way wsX6_way rm_X6_way (zPc D k a [.ref (a 0)] S sz) (va_Qi Q (zB D k a) (zA a sz)) 0 0 (zA a sz) := by
  refine Met.ofW (cc := cX6_way) (maxL := 1) (ret := (some .boolean)) (by decide) rfl ?_
  intro p e s m args below meth c s₁ B hml hv
  obtain ⟨rfl, hsz, hP, hK⟩ := hv
  have hx := B.exec
  have hb := B.bytes
  have hr := B.returns
  have hts := atoms_spec (ws := wsX6_way) B.pre
  have hown : s.vm.findClass RX6 = some m.cls := findClass_of_methodNamed B.named
  have hlocks := B.notSynchronized
  subst hsz
  have hS : va_S (zA a s.heap.size) s.heap s.heap [] := va_S.rf
  have hF : CallFix p m c cX6_way 1 s _ wsX6_way RX6 := ⟨hx, hb, hml, hown, hts⟩
  have i6 : ∀ w ∈ wsX60, w ∈ wsX6_way := fun _ h => (List.mem_cons_of_mem _ (List.mem_append_left _ (List.mem_append_left _ (List.mem_append_right _ h))))
  have hl := lv_entry ([.ref (a 0)]) (n := 1) (Nat.le_of_ble_eq_true rfl)
  rw [lg_entry_eq]
  generalize (lg_sl ([.ref (a 0)]) ++ List.replicate (1 - (lg_sl ([.ref (a 0)])).length) Slot.unset).toArray = ls at hl ⊢
  have hl : lv_has ls 1 [(0, .ref (a 0))] := hl
  unfold X6_way at hm
  refine lv_aload_n hx hb dX6_way_0 rfl (lv_at hl 0 rfl) ?_
  refine zg_6_shape hx hb hts i6 hown hK hP (hts _ (List.mem_of_getElem? (i := 1) rfl)) dX6_way_1 ?_
  refine z_cVi (As := []) (rest := []) hF hK hP hS zO_2 rfl rfl (c_X4_isWay l D k a hj  S _ hm _) (cwV 0 hts gX6_way_X4_isWay rfl rfl rfl (by decide +kernel) ⟨Nat.le_of_ble_eq_true rfl, Nat.le_of_ble_eq_true rfl⟩) rfl hl.1 rfl (Nat.le_of_ble_eq_true rfl) dX6_way_4 ⟨Nat.zero_le _, Nat.zero_le _⟩ (fun r_4 S_4 H locs hm hP hS => ?_)
  exact z_retz hx hb hr hlocks hP hS hm dX6_way_7

abbrev rm_X6_solveFlow : Room := { frames := 5, cells := 0, slots := 0, locals := 113 }
def X6_solveFlow (S : ZS) (Q : Int32 → ZS → Prop) : Prop :=
  X1_lay S (fun S_15 => X1_balance S_15 (fun r_22 S_22 => (r_22 = 0 → X3_search S_22 (fun S_43 => Q (3 : Int32) S_43)) ∧ (¬ r_22 = 0 → zcpy (0 : Int32) (0 : Int32) (S_22.1 1 0) 18 10 ∧ ∀ S_68 : ZS, S_68 = zur S_22 7 (va_cpy (S_22.1 31) (S_22.1 7) ((0 : Int32)).toNatClampNeg ((0 : Int32)).toNatClampNeg ((S_22.1 1 0)).toNatClampNeg) → X2_choose (S_68.1 1 1) S_68 (fun S_93 => Q (1 : Int32) S_93))))
set_option maxHeartbeats 4000000 in
set_option maxRecDepth 100000 in
theorem c_X6_solveFlow (l : Launch) (D : va_G) (k : Nat → ClassId) (a : Nat → Nat) (hj : zDj a) (S : ZS) (Q : Int32 → ZS → Prop) (hm : X6_solveFlow S Q) (sz : Nat) : Met l yX6_solveFlow wsX6_solveFlow rm_X6_solveFlow (zPc D k a [.ref (a 0)] S sz) (va_Qi Q (zB D k a) (zA a sz)) 0 0 (zA a sz) := by
  refine Met.ofW (cc := cX6_solveFlow) (maxL := 1) (ret := (some .int)) (by decide) rfl ?_
  intro p e s m args below meth c s₁ B hml hv
  obtain ⟨rfl, hsz, hP, hK⟩ := hv
  have hx := B.exec
  have hb := B.bytes
  have hr := B.returns
  have hts := atoms_spec (ws := wsX6_solveFlow) B.pre
  have hown : s.vm.findClass RX6 = some m.cls := findClass_of_methodNamed B.named
  have hlocks := B.notSynchronized
  subst hsz
  have hS : va_S (zA a s.heap.size) s.heap s.heap [] := va_S.rf
  have hF : CallFix p m c cX6_solveFlow 1 s _ wsX6_solveFlow RX6 := ⟨hx, hb, hml, hown, hts⟩
  have i1 : ∀ w ∈ wsX10, w ∈ wsX6_solveFlow := fun _ h => (List.mem_cons_of_mem _ (List.mem_append_left _ (List.mem_append_left _ (List.mem_append_left _ (List.mem_append_right _ h)))))
  have i4 : ∀ w ∈ wsX40, w ∈ wsX6_solveFlow := fun _ h => (List.mem_cons_of_mem _ (List.mem_append_left _ (List.mem_append_left _ (List.mem_append_left _ (List.mem_append_left _ (List.mem_append_right _ h))))))
  have i5 : ∀ w ∈ wsX50, w ∈ wsX6_solveFlow := fun _ h => (List.mem_cons_of_mem _ (List.mem_append_left _ (List.mem_append_left _ (List.mem_append_right _ h))))
  have i6 : ∀ w ∈ wsX60, w ∈ wsX6_solveFlow := fun _ h => (List.mem_cons_of_mem _ (List.mem_append_left _ (List.mem_append_left _ (List.mem_append_left _ (List.mem_append_left _ (List.mem_append_left _ (List.mem_append_right _ h)))))))
  have hl := lv_entry ([.ref (a 0)]) (n := 1) (Nat.le_of_ble_eq_true rfl)
  rw [lg_entry_eq]
  generalize (lg_sl ([.ref (a 0)]) ++ List.replicate (1 - (lg_sl ([.ref (a 0)])).length) Slot.unset).toArray = ls at hl ⊢
  have hl : lv_has ls 1 [(0, .ref (a 0))] := hl
  unfold X6_solveFlow at hm
  refine lv_aload_n hx hb dX6_solveFlow_0 rfl (lv_at hl 0 rfl) ?_
  refine zg_6_network hx hb hts i6 hown hK hP (hts _ (List.mem_of_getElem? (i := 1) rfl)) dX6_solveFlow_1 ?_
  refine lv_aload_n hx hb dX6_solveFlow_4 rfl (lv_at hl 0 rfl) ?_
  refine zg_6_whole hx hb hts i6 hown hK hP (hts _ (List.mem_of_getElem? (i := 2) rfl)) dX6_solveFlow_5 ?_
  refine lv_aload_n hx hb dX6_solveFlow_8 rfl (lv_at hl 0 rfl) ?_
  refine zg_6_shape hx hb hts i6 hown hK hP (hts _ (List.mem_of_getElem? (i := 3) rfl)) dX6_solveFlow_9 ?_
  refine zg_4_signs hx hb hts i4 hown hK hP (hts _ (List.mem_of_getElem? (i := 4) rfl)) dX6_solveFlow_12 ?_
  refine z_cVv (As := [.ref (a 1), .ref (a 23)]) (rest := []) hF hK hP hS zO_3 rfl rfl (c_X1_lay l D k a hj  S _ hm _) (cwV 2 hts gX6_solveFlow_X1_lay rfl rfl rfl (by decide +kernel) ⟨Nat.le_of_ble_eq_true rfl, Nat.le_of_ble_eq_true rfl⟩) rfl hl.1 rfl (Nat.le_of_ble_eq_true rfl) dX6_solveFlow_15 ⟨Nat.zero_le _, Nat.zero_le _⟩ (fun S_15 H locs hm hP hS => ?_)
  refine lv_aload_n hx hb dX6_solveFlow_18 rfl (lv_at hl 0 rfl) ?_
  refine zg_6_network hx hb hts i6 hown hK hP (hts _ (List.mem_of_getElem? (i := 1) rfl)) dX6_solveFlow_19 ?_
  refine z_cVi (As := []) (rest := []) hF hK hP hS zO_3 rfl rfl (c_X1_balance l D k a hj  S_15 _ hm _) (cwV 0 hts gX6_solveFlow_X1_balance rfl rfl rfl (by decide +kernel) ⟨Nat.le_of_ble_eq_true rfl, Nat.le_of_ble_eq_true rfl⟩) rfl hl.1 rfl (Nat.le_of_ble_eq_true rfl) dX6_solveFlow_22 ⟨Nat.zero_le _, Nat.zero_le _⟩ (fun r_22 S_22 H locs hm hP hS => ?_)
  refine lv_if_ne (tgt := 48) hx hb dX6_solveFlow_25 (by decide) (fun c_25 => ?_) (fun c_25 => ?_)
  · have hm := hm.2 c_25
    refine lv_aload_n hx hb dX6_solveFlow_48 rfl (lv_at hl 0 rfl) ?_
    refine zg_6_network hx hb hts i6 hown hK hP (hts _ (List.mem_of_getElem? (i := 1) rfl)) dX6_solveFlow_49 ?_
    refine zg_1_amount hx hb hts i1 hown hK hP (hts _ (List.mem_of_getElem? (i := 6) rfl)) dX6_solveFlow_52 ?_
    refine lv_iconst (v := (0 : Int32)) hx hb dX6_solveFlow_55 (by decide) ?_
    refine lv_aload_n hx hb dX6_solveFlow_56 rfl (lv_at hl 0 rfl) ?_
    refine zg_6_best hx hb hts i6 hown hK hP (hts _ (List.mem_of_getElem? (i := 7) rfl)) dX6_solveFlow_57 ?_
    refine lv_iconst (v := (0 : Int32)) hx hb dX6_solveFlow_60 (by decide) ?_
    refine lv_aload_n hx hb dX6_solveFlow_61 rfl (lv_at hl 0 rfl) ?_
    refine zg_6_whole hx hb hts i6 hown hK hP (hts _ (List.mem_of_getElem? (i := 2) rfl)) dX6_solveFlow_62 ?_
    refine zg_5_columns hx hb hts i5 hown hK hP (hts _ (List.mem_of_getElem? (i := 8) rfl)) dX6_solveFlow_65 ?_
    obtain ⟨h_68, hm⟩ := hm
    refine z_copy hx hb (hml.trans hl.1.symm) hown (hts _ (List.mem_of_getElem? (i := 9) rfl)) (hts _ (List.mem_of_getElem? (i := 10) rfl)) (hts _ (List.mem_of_getElem? (i := 11) rfl)) (hts _ (List.mem_of_getElem? (i := 12) rfl)) hj hK hP hS zI_31 zI_7 h_68 (Nat.le_of_ble_eq_true rfl) (Nat.le_of_ble_eq_true rfl) dX6_solveFlow_68 (fun H locs hP hS => ?_)
    obtain ⟨S_68, eS_68⟩ : ∃ z : ZS, z = zur S_22 7 (va_cpy (S_22.1 31) (S_22.1 7) ((0 : Int32)).toNatClampNeg ((0 : Int32)).toNatClampNeg ((S_22.1 1 0)).toNatClampNeg) := ⟨_, rfl⟩
    rw [← eS_68] at hP
    have hm := hm S_68 eS_68
    refine lv_aload_n hx hb dX6_solveFlow_71 rfl (lv_at hl 0 rfl) ?_
    refine zg_6_prices hx hb hts i6 hown hK hP (hts _ (List.mem_of_getElem? (i := 13) rfl)) dX6_solveFlow_72 ?_
    refine lv_aload_n hx hb dX6_solveFlow_75 rfl (lv_at hl 0 rfl) ?_
    refine zg_6_network hx hb hts i6 hown hK hP (hts _ (List.mem_of_getElem? (i := 1) rfl)) dX6_solveFlow_76 ?_
    refine lv_aload_n hx hb dX6_solveFlow_79 rfl (lv_at hl 0 rfl) ?_
    refine zg_6_shape hx hb hts i6 hown hK hP (hts _ (List.mem_of_getElem? (i := 3) rfl)) dX6_solveFlow_80 ?_
    refine zg_4_signs hx hb hts i4 hown hK hP (hts _ (List.mem_of_getElem? (i := 4) rfl)) dX6_solveFlow_83 ?_
    refine lv_aload_n hx hb dX6_solveFlow_86 rfl (lv_at hl 0 rfl) ?_
    refine zg_6_whole hx hb hts i6 hown hK hP (hts _ (List.mem_of_getElem? (i := 2) rfl)) dX6_solveFlow_87 ?_
    refine zg_5_rows hx hb hts i5 hown hK hP (hts _ (List.mem_of_getElem? (i := 14) rfl)) dX6_solveFlow_90 ?_
    refine z_cVv (As := [.ref (a 3), .ref (a 23), .int (S_68.1 1 1)]) (rest := []) hF hK hP hS zO_4 rfl rfl (c_X2_choose l D k a hj (S_68.1 1 1) S_68 _ hm _) (cwV 3 hts gX6_solveFlow_X2_choose rfl rfl rfl (by decide +kernel) ⟨Nat.le_of_ble_eq_true rfl, Nat.le_of_ble_eq_true rfl⟩) rfl hl.1 rfl (Nat.le_of_ble_eq_true rfl) dX6_solveFlow_93 ⟨Nat.zero_le _, Nat.zero_le _⟩ (fun S_93 H locs hm hP hS => ?_)
    refine lv_iconst (v := (1 : Int32)) hx hb dX6_solveFlow_96 (by decide) ?_
    exact z_reti hx hb hr hlocks hP hS hm dX6_solveFlow_97
  · have hm := hm.1 c_25
    refine lv_aload_n hx hb dX6_solveFlow_28 rfl (lv_at hl 0 rfl) ?_
    refine zg_6_noPoint hx hb hts i6 hown hK hP (hts _ (List.mem_of_getElem? (i := 5) rfl)) dX6_solveFlow_29 ?_
    refine lv_aload_n hx hb dX6_solveFlow_32 rfl (lv_at hl 0 rfl) ?_
    refine zg_6_whole hx hb hts i6 hown hK hP (hts _ (List.mem_of_getElem? (i := 2) rfl)) dX6_solveFlow_33 ?_
    refine lv_aload_n hx hb dX6_solveFlow_36 rfl (lv_at hl 0 rfl) ?_
    refine zg_6_shape hx hb hts i6 hown hK hP (hts _ (List.mem_of_getElem? (i := 3) rfl)) dX6_solveFlow_37 ?_
    refine zg_4_signs hx hb hts i4 hown hK hP (hts _ (List.mem_of_getElem? (i := 4) rfl)) dX6_solveFlow_40 ?_
    refine z_cVv (As := [.ref (a 1), .ref (a 23)]) (rest := []) hF hK hP hS zO_5 rfl rfl (c_X3_search l D k a hj  S_22 _ hm _) (cwV 2 hts gX6_solveFlow_X3_search rfl rfl rfl (by decide +kernel) ⟨Nat.le_of_ble_eq_true rfl, Nat.le_of_ble_eq_true rfl⟩) rfl hl.1 rfl (Nat.le_of_ble_eq_true rfl) dX6_solveFlow_43 ⟨Nat.zero_le _, Nat.zero_le _⟩ (fun S_43 H locs hm hP hS => ?_)
    refine lv_iconst (v := (3 : Int32)) hx hb dX6_solveFlow_46 (by decide) ?_
    exact z_reti hx hb hr hlocks hP hS hm dX6_solveFlow_47

abbrev rm_X6_solve : Room := { frames := 6, cells := 0, slots := 0, locals := 133 }
def X6_solve_b75 (t0 : Int32) (S : ZS) (Q : Int32 → ZS → Prop) : Prop :=
  Q t0 S
def X6_solve_b62 (S : ZS) (Q : Int32 → ZS → Prop) : Prop :=
  ((S.1 0 7) = (3 : Int32) → X6_solve_b75 (0 : Int32) S Q) ∧ (¬ (S.1 0 7) = (3 : Int32) → X6_solve_b75 (1 : Int32) S Q)
def X6_solve (S : ZS) (Q : Int32 → ZS → Prop) : Prop :=
  X4_findSigns S (fun r_4 S_4 => (r_4 = (-1 : Int32) → X6_solveFlow S_4 (fun r_13 S_13 => ∀ S_16 : ZS, S_16 = zu S_13 0 7 r_13 → X6_solve_b62 S_16 Q)) ∧ (¬ r_4 = (-1 : Int32) → X4_isKnapsack S_4 (fun r_26 S_26 => (r_26 = 0 → ∀ S_57 : ZS, S_57 = zu S_26 0 7 (0 : Int32) → Q (-1 : Int32) S_57) ∧ (¬ r_26 = 0 → X0_fill S_26 (fun S_44 => ∀ S_49 : ZS, S_49 = zu S_44 0 7 (2 : Int32) → X6_solve_b62 S_49 Q)))))
set_option maxHeartbeats 4000000 in
set_option maxRecDepth 100000 in
theorem c_X6_solve (l : Launch) (D : va_G) (k : Nat → ClassId) (a : Nat → Nat) (hj : zDj a) (S : ZS) (Q : Int32 → ZS → Prop) (hm : X6_solve S Q) (sz : Nat) : Met l yX6_solve wsX6_solve rm_X6_solve (zPc D k a [.ref (a 0)] S sz) (va_Qi Q (zB D k a) (zA a sz)) 0 0 (zA a sz) := by
  refine Met.ofW (cc := cX6_solve) (maxL := 1) (ret := (some .int)) (by decide) rfl ?_
  intro p e s m args below meth c s₁ B hml hv
  obtain ⟨rfl, hsz, hP, hK⟩ := hv
  have hx := B.exec
  have hb := B.bytes
  have hr := B.returns
  have hts := atoms_spec (ws := wsX6_solve) B.pre
  have hown : s.vm.findClass RX6 = some m.cls := findClass_of_methodNamed B.named
  have hlocks := B.notSynchronized
  subst hsz
  have hS : va_S (zA a s.heap.size) s.heap s.heap [] := va_S.rf
  have hF : CallFix p m c cX6_solve 1 s _ wsX6_solve RX6 := ⟨hx, hb, hml, hown, hts⟩
  have i6 : ∀ w ∈ wsX60, w ∈ wsX6_solve := fun _ h => (List.mem_cons_of_mem _ (List.mem_append_left _ (List.mem_append_left _ (List.mem_append_left _ (List.mem_append_left _ (List.mem_append_left _ (List.mem_append_left _ (List.mem_append_right _ h))))))))
  have hl := lv_entry ([.ref (a 0)]) (n := 1) (Nat.le_of_ble_eq_true rfl)
  rw [lg_entry_eq]
  generalize (lg_sl ([.ref (a 0)]) ++ List.replicate (1 - (lg_sl ([.ref (a 0)])).length) Slot.unset).toArray = ls at hl ⊢
  have hl : lv_has ls 1 [(0, .ref (a 0))] := hl
  have b62 : ∀ (S : ZS) (H : Heap) (locs : List Loc) (ls : Array Slot), X6_solve_b62 S Q → va_P D vwCl (zWS k a S) H → va_S (zA a s.heap.size) s.heap H locs → lv_has ls 1 [(0, .ref (a 0))] → zWi p l e (headSpec wsX6_solve rm_X6_solve).room s m ([.ref (a 0)] : List Value) below meth c D k a Q H locs (F0 m 62 ls []) := by
    intro S H locs ls hm hP hS hl
    unfold X6_solve_b62 at hm
    have b75 : ∀ (t0 : Int32) (S : ZS) (H : Heap) (locs : List Loc) (ls : Array Slot), X6_solve_b75 t0 S Q → va_P D vwCl (zWS k a S) H → va_S (zA a s.heap.size) s.heap H locs → lv_has ls 1 [(0, .ref (a 0))] → zWi p l e (headSpec wsX6_solve rm_X6_solve).room s m ([.ref (a 0)] : List Value) below meth c D k a Q H locs (F0 m 75 ls [.int t0]) := by
      intro t0 S H locs ls hm hP hS hl
      unfold X6_solve_b75 at hm
      exact z_reti hx hb hr hlocks hP hS hm dX6_solve_75
    refine lv_aload_n hx hb dX6_solve_62 rfl (lv_at hl 0 rfl) ?_
    refine zg_6_solved hx hb hts i6 hown hK hP (hts _ (List.mem_of_getElem? (i := 2) rfl)) dX6_solve_63 ?_
    refine lv_iconst (v := (3 : Int32)) hx hb dX6_solve_66 (by decide) ?_
    refine lv_icmp_ne (tgt := 74) hx hb dX6_solve_67 (by decide) (fun c_67 => ?_) (fun c_67 => ?_)
    · have hm := hm.2 c_67
      refine lv_iconst (v := (1 : Int32)) hx hb dX6_solve_74 (by decide) ?_
      exact b75 (1 : Int32) S _ _ _ hm hP hS (lv_sub hl [0] rfl)
    · have hm := hm.1 c_67
      refine lv_iconst (v := (0 : Int32)) hx hb dX6_solve_70 (by decide) ?_
      refine lv_goto (tgt := 75) hx hb dX6_solve_71 (by decide) ?_
      exact b75 (0 : Int32) S _ _ _ hm hP hS (lv_sub hl [0] rfl)
  unfold X6_solve at hm
  refine lv_aload_n hx hb dX6_solve_0 rfl (lv_at hl 0 rfl) ?_
  refine zg_6_shape hx hb hts i6 hown hK hP (hts _ (List.mem_of_getElem? (i := 1) rfl)) dX6_solve_1 ?_
  refine z_cVi (As := []) (rest := []) hF hK hP hS zO_2 rfl rfl (c_X4_findSigns l D k a hj  S _ hm _) (cwV 0 hts gX6_solve_X4_findSigns rfl rfl rfl (by decide +kernel) ⟨Nat.le_of_ble_eq_true rfl, Nat.le_of_ble_eq_true rfl⟩) rfl hl.1 rfl (Nat.le_of_ble_eq_true rfl) dX6_solve_4 ⟨Nat.zero_le _, Nat.zero_le _⟩ (fun r_4 S_4 H locs hm hP hS => ?_)
  refine lv_iconst (v := (-1 : Int32)) hx hb dX6_solve_7 (by decide) ?_
  refine lv_icmp_ne (tgt := 22) hx hb dX6_solve_8 (by decide) (fun c_8 => ?_) (fun c_8 => ?_)
  · have hm := hm.2 c_8
    refine lv_aload_n hx hb dX6_solve_22 rfl (lv_at hl 0 rfl) ?_
    refine zg_6_shape hx hb hts i6 hown hK hP (hts _ (List.mem_of_getElem? (i := 1) rfl)) dX6_solve_23 ?_
    refine z_cVi (As := []) (rest := []) hF hK hP hS zO_2 rfl rfl (c_X4_isKnapsack l D k a hj  S_4 _ hm _) (cwV 0 hts gX6_solve_X4_isKnapsack rfl rfl rfl (by decide +kernel) ⟨Nat.le_of_ble_eq_true rfl, Nat.le_of_ble_eq_true rfl⟩) rfl hl.1 rfl (Nat.le_of_ble_eq_true rfl) dX6_solve_26 ⟨Nat.zero_le _, Nat.zero_le _⟩ (fun r_26 S_26 H locs hm hP hS => ?_)
    refine lv_if_eq (tgt := 55) hx hb dX6_solve_29 (by decide) (fun c_29 => ?_) (fun c_29 => ?_)
    · have hm := hm.1 c_29
      refine lv_aload_n hx hb dX6_solve_55 rfl (lv_at hl 0 rfl) ?_
      refine lv_iconst (v := (0 : Int32)) hx hb dX6_solve_56 (by decide) ?_
      refine zp_6_solved hx hb hts i6 hown hj hK hP hS (hts _ (List.mem_of_getElem? (i := 2) rfl)) dX6_solve_57 (fun H locs hP hS => ?_)
      obtain ⟨S_57, eS_57⟩ : ∃ z : ZS, z = zu S_26 0 7 (0 : Int32) := ⟨_, rfl⟩
      rw [← eS_57] at hP
      have hm := hm S_57 eS_57
      refine lv_iconst (v := (-1 : Int32)) hx hb dX6_solve_60 (by decide) ?_
      exact z_reti hx hb hr hlocks hP hS hm dX6_solve_61
    · have hm := hm.2 c_29
      refine lv_aload_n hx hb dX6_solve_32 rfl (lv_at hl 0 rfl) ?_
      refine zg_6_sack hx hb hts i6 hown hK hP (hts _ (List.mem_of_getElem? (i := 3) rfl)) dX6_solve_33 ?_
      refine lv_aload_n hx hb dX6_solve_36 rfl (lv_at hl 0 rfl) ?_
      refine zg_6_whole hx hb hts i6 hown hK hP (hts _ (List.mem_of_getElem? (i := 4) rfl)) dX6_solve_37 ?_
      refine lv_aload_n hx hb dX6_solve_40 rfl (lv_at hl 0 rfl) ?_
      refine zg_6_best hx hb hts i6 hown hK hP (hts _ (List.mem_of_getElem? (i := 5) rfl)) dX6_solve_41 ?_
      refine z_cVv (As := [.ref (a 1), .ref (a 7)]) (rest := []) hF hK hP hS zO_6 rfl rfl (c_X0_fill l D k a hj  S_26 _ hm _) (cwV 2 hts gX6_solve_X0_fill rfl rfl rfl (by decide +kernel) ⟨Nat.le_of_ble_eq_true rfl, Nat.le_of_ble_eq_true rfl⟩) rfl hl.1 rfl (Nat.le_of_ble_eq_true rfl) dX6_solve_44 ⟨Nat.zero_le _, Nat.zero_le _⟩ (fun S_44 H locs hm hP hS => ?_)
      refine lv_aload_n hx hb dX6_solve_47 rfl (lv_at hl 0 rfl) ?_
      refine lv_iconst (v := (2 : Int32)) hx hb dX6_solve_48 (by decide) ?_
      refine zp_6_solved hx hb hts i6 hown hj hK hP hS (hts _ (List.mem_of_getElem? (i := 2) rfl)) dX6_solve_49 (fun H locs hP hS => ?_)
      obtain ⟨S_49, eS_49⟩ : ∃ z : ZS, z = zu S_44 0 7 (2 : Int32) := ⟨_, rfl⟩
      rw [← eS_49] at hP
      have hm := hm S_49 eS_49
      refine lv_goto (tgt := 62) hx hb dX6_solve_52 (by decide) ?_
      exact b62  S_49 _ _ _ hm hP hS (lv_sub hl [0] rfl)
  · have hm := hm.1 c_8
    refine lv_aload_n hx hb dX6_solve_11 rfl (lv_at hl 0 rfl) ?_
    refine lv_aload_n hx hb dX6_solve_12 rfl (lv_at hl 0 rfl) ?_
    refine z_cVi (As := []) (rest := [.ref (a 0)]) hF hK hP hS zO_0 rfl rfl (c_X6_solveFlow l D k a hj  S_4 _ hm _) (cwV 0 hts gX6_solve_X6_solveFlow rfl rfl rfl (by decide +kernel) ⟨Nat.le_of_ble_eq_true rfl, Nat.le_of_ble_eq_true rfl⟩) rfl hl.1 rfl (Nat.le_of_ble_eq_true rfl) dX6_solve_13 ⟨Nat.zero_le _, Nat.zero_le _⟩ (fun r_13 S_13 H locs hm hP hS => ?_)
    refine zp_6_solved hx hb hts i6 hown hj hK hP hS (hts _ (List.mem_of_getElem? (i := 2) rfl)) dX6_solve_16 (fun H locs hP hS => ?_)
    obtain ⟨S_16, eS_16⟩ : ∃ z : ZS, z = zu S_13 0 7 r_13 := ⟨_, rfl⟩
    rw [← eS_16] at hP
    have hm := hm S_16 eS_16
    refine lv_goto (tgt := 62) hx hb dX6_solve_19 (by decide) ?_
    exact b62  S_16 _ _ _ hm hP hS (lv_sub hl [0] rfl)

