abbrev rm_X7_thrown : Room := { frames := 0, cells := 0, slots := 0, locals := 0 }
def X7_thrown (S : ZS) (Q : Int32 → ZS → Prop) : Prop :=
  Q (S.1 61 0) S
set_option maxHeartbeats 4000000 in
set_option maxRecDepth 100000 in
theorem c_X7_thrown (l : Launch) (D : va_G) (k : Nat → ClassId) (a : Nat → Nat) (hj : zDj a) (S : ZS) (Q : Int32 → ZS → Prop) (hm : X7_thrown S Q) (sz : Nat) : Met l yX7_thrown wsX7_thrown rm_X7_thrown (zPc D k a [.ref (a 61)] S sz) (va_Qi Q (zB D k a) (zA a sz)) 0 0 (zA a sz) := by
  refine Met.ofW (cc := cX7_thrown) (maxL := 1) (ret := (some .int)) (by decide) rfl ?_
  intro p e s m args below meth c s₁ B hml hv
  obtain ⟨rfl, hsz, hP, hK⟩ := hv
  have hx := B.exec
  have hb := B.bytes
  have hr := B.returns
  have hts := atoms_spec (ws := wsX7_thrown) B.pre
  have hown : s.vm.findClass RX7 = some m.cls := findClass_of_methodNamed B.named
  have hlocks := B.notSynchronized
  subst hsz
  have hS : va_S (zA a s.heap.size) s.heap s.heap [] := va_S.rf
  have hF : CallFix p m c cX7_thrown 1 s _ wsX7_thrown RX7 := ⟨hx, hb, hml, hown, hts⟩
  have i7 : ∀ w ∈ wsX70, w ∈ wsX7_thrown := fun _ h => (List.mem_cons_of_mem _ (List.mem_append_right _ h))
  have hl := lv_entry ([.ref (a 61)]) (n := 1) (Nat.le_of_ble_eq_true rfl)
  rw [lg_entry_eq]
  generalize (lg_sl ([.ref (a 61)]) ++ List.replicate (1 - (lg_sl ([.ref (a 61)])).length) Slot.unset).toArray = ls at hl ⊢
  have hl : lv_has ls 1 [(0, .ref (a 61))] := hl
  unfold X7_thrown at hm
  refine lv_aload_n hx hb dX7_thrown_0 rfl (lv_at hl 0 rfl) ?_
  refine zg_7_thrown hx hb hts i7 hown hK hP (hts _ (List.mem_of_getElem? (i := 1) rfl)) dX7_thrown_1 ?_
  exact z_reti hx hb hr hlocks hP hS hm dX7_thrown_4

abbrev rm_X7_within : Room := { frames := 0, cells := 0, slots := 0, locals := 0 }
def X7_within_b18 (t0 : Int32) (S : ZS) (Q : Int32 → ZS → Prop) : Prop :=
  zbit t0 ∧ Q t0 S
def X7_within_b17 (S : ZS) (Q : Int32 → ZS → Prop) : Prop :=
  X7_within_b18 (0 : Int32) S Q
def X7_within (y0 : Int64) (y2 : Int64) (y4 : Int64) (S : ZS) (Q : Int32 → ZS → Prop) : Prop :=
  ((lg_cmp y0 y2) < 0 → X7_within_b17 S Q) ∧ (¬ (lg_cmp y0 y2) < 0 → (0 < (lg_cmp y0 y4) → X7_within_b17 S Q) ∧ (¬ 0 < (lg_cmp y0 y4) → X7_within_b18 (1 : Int32) S Q))
set_option maxHeartbeats 4000000 in
set_option maxRecDepth 100000 in
theorem c_X7_within (l : Launch) (D : va_G) (k : Nat → ClassId) (a : Nat → Nat) (hj : zDj a) (y0 : Int64) (y2 : Int64) (y4 : Int64) (S : ZS) (Q : Int32 → ZS → Prop) (hm : X7_within y0 y2 y4 S Q) (sz : Nat) : Met l yX7_within wsX7_within rm_X7_within (zPc D k a [.long y0, .long y2, .long y4] S sz) (va_Qi Q (zB D k a) (zA a sz)) 0 0 (zA a sz) := by
  refine Met.ofW (cc := cX7_within) (maxL := 6) (ret := (some .boolean)) (by decide) rfl ?_
  intro p e s m args below meth c s₁ B hml hv
  obtain ⟨rfl, hsz, hP, hK⟩ := hv
  have hx := B.exec
  have hb := B.bytes
  have hr := B.returns
  have hts := atoms_spec (ws := wsX7_within) B.pre
  have hown : s.vm.findClass RX7 = some m.cls := findClass_of_methodNamed B.named
  have hlocks := B.notSynchronized
  subst hsz
  have hS : va_S (zA a s.heap.size) s.heap s.heap [] := va_S.rf
  have hF : CallFix p m c cX7_within 6 s _ wsX7_within RX7 := ⟨hx, hb, hml, hown, hts⟩
  have hl := lv_entry ([.long y0, .long y2, .long y4]) (n := 6) (Nat.le_of_ble_eq_true rfl)
  rw [lg_entry_eq]
  generalize (lg_sl ([.long y0, .long y2, .long y4]) ++ List.replicate (6 - (lg_sl ([.long y0, .long y2, .long y4])).length) Slot.unset).toArray = ls at hl ⊢
  have hl : lv_has ls 6 [(0, .long y0), (2, .long y2), (4, .long y4)] := hl
  have b18 : ∀ (t0 : Int32) (S : ZS) (H : Heap) (locs : List Loc) (ls : Array Slot), X7_within_b18 t0 S Q → va_P D vwCl (zWS k a S) H → va_S (zA a s.heap.size) s.heap H locs → lv_has ls 6 [] → zWi p l e (headSpec wsX7_within rm_X7_within).room s m ([.long y0, .long y2, .long y4] : List Value) below meth c D k a Q H locs (F0 m 18 ls [.int t0]) := by
    intro t0 S H locs ls hm hP hS hl
    unfold X7_within_b18 at hm
    exact z_retz hx hb hr hlocks hP hS hm dX7_within_18
  have b17 : ∀ (S : ZS) (H : Heap) (locs : List Loc) (ls : Array Slot), X7_within_b17 S Q → va_P D vwCl (zWS k a S) H → va_S (zA a s.heap.size) s.heap H locs → lv_has ls 6 [] → zWi p l e (headSpec wsX7_within rm_X7_within).room s m ([.long y0, .long y2, .long y4] : List Value) below meth c D k a Q H locs (F0 m 17 ls []) := by
    intro S H locs ls hm hP hS hl
    unfold X7_within_b17 at hm
    refine lv_iconst (v := (0 : Int32)) hx hb dX7_within_17 (by decide) ?_
    exact b18 (0 : Int32) S _ _ _ hm hP hS (lv_sub hl [] rfl)
  unfold X7_within at hm
  refine lv_lload_n hx hb dX7_within_0 rfl (lv_at hl 0 rfl) ?_
  refine lv_lload_n hx hb dX7_within_1 rfl (lv_at hl 1 rfl) ?_
  refine W.lcmp hx hb dX7_within_2 ?_
  refine lv_if_lt (tgt := 17) hx hb dX7_within_3 (by decide) (fun c_3 => ?_) (fun c_3 => ?_)
  · have hm := hm.1 c_3
    exact b17  S _ _ _ hm hP hS (lv_sub hl [] rfl)
  · have hm := hm.2 c_3
    refine lv_lload_n hx hb dX7_within_6 rfl (lv_at hl 0 rfl) ?_
    refine lv_lload hx hb dX7_within_7 (lv_at hl 2 rfl) ?_
    refine W.lcmp hx hb dX7_within_9 ?_
    refine lv_if_gt (tgt := 17) hx hb dX7_within_10 (by decide) (fun c_10 => ?_) (fun c_10 => ?_)
    · have hm := hm.1 c_10
      exact b17  S _ _ _ hm hP hS (lv_sub hl [] rfl)
    · have hm := hm.2 c_10
      refine lv_iconst (v := (1 : Int32)) hx hb dX7_within_13 (by decide) ?_
      refine lv_goto (tgt := 18) hx hb dX7_within_14 (by decide) ?_
      exact b18 (1 : Int32) S _ _ _ hm hP hS (lv_sub hl [] rfl)

abbrev rm_X7_passes : Room := { frames := 0, cells := 0, slots := 0, locals := 0 }
def X7_passes_b33 (t0 : Int32) (S : ZS) (Q : Int32 → ZS → Prop) : Prop :=
  zbit t0 ∧ Q t0 S
def X7_passes_b18 (t0 : Int32) (S : ZS) (Q : Int32 → ZS → Prop) : Prop :=
  ∀ S_18 : ZS, S_18 = zu S 61 0 t0 → ((S_18.1 61 0) = 0 → X7_passes_b33 (1 : Int32) S_18 Q) ∧ (¬ (S_18.1 61 0) = 0 → X7_passes_b33 (0 : Int32) S_18 Q)
def X7_passes (y1 : Int32) (y2 : Int32) (S : ZS) (Q : Int32 → ZS → Prop) : Prop :=
  (y1 = 0 → (y2 = 0 → X7_passes_b18 (0 : Int32) S Q) ∧ (¬ y2 = 0 → X7_passes_b18 (2 : Int32) S Q)) ∧ (¬ y1 = 0 → X7_passes_b18 (1 : Int32) S Q)
set_option maxHeartbeats 4000000 in
set_option maxRecDepth 100000 in
theorem c_X7_passes (l : Launch) (D : va_G) (k : Nat → ClassId) (a : Nat → Nat) (hj : zDj a) (y1 : Int32) (y2 : Int32) (S : ZS) (Q : Int32 → ZS → Prop) (hm : X7_passes y1 y2 S Q) (sz : Nat) : Met l yX7_passes wsX7_passes rm_X7_passes (zPc D k a [.ref (a 61), .int y1, .int y2] S sz) (va_Qi Q (zB D k a) (zA a sz)) 0 0 (zA a sz) := by
  refine Met.ofW (cc := cX7_passes) (maxL := 3) (ret := (some .boolean)) (by decide) rfl ?_
  intro p e s m args below meth c s₁ B hml hv
  obtain ⟨rfl, hsz, hP, hK⟩ := hv
  have hx := B.exec
  have hb := B.bytes
  have hr := B.returns
  have hts := atoms_spec (ws := wsX7_passes) B.pre
  have hown : s.vm.findClass RX7 = some m.cls := findClass_of_methodNamed B.named
  have hlocks := B.notSynchronized
  subst hsz
  have hS : va_S (zA a s.heap.size) s.heap s.heap [] := va_S.rf
  have hF : CallFix p m c cX7_passes 3 s _ wsX7_passes RX7 := ⟨hx, hb, hml, hown, hts⟩
  have i7 : ∀ w ∈ wsX70, w ∈ wsX7_passes := fun _ h => (List.mem_cons_of_mem _ (List.mem_append_right _ h))
  have hl := lv_entry ([.ref (a 61), .int y1, .int y2]) (n := 3) (Nat.le_of_ble_eq_true rfl)
  rw [lg_entry_eq]
  generalize (lg_sl ([.ref (a 61), .int y1, .int y2]) ++ List.replicate (3 - (lg_sl ([.ref (a 61), .int y1, .int y2])).length) Slot.unset).toArray = ls at hl ⊢
  have hl : lv_has ls 3 [(0, .ref (a 61)), (1, .int y1), (2, .int y2)] := hl
  have b18 : ∀ (t0 : Int32) (S : ZS) (H : Heap) (locs : List Loc) (ls : Array Slot), X7_passes_b18 t0 S Q → va_P D vwCl (zWS k a S) H → va_S (zA a s.heap.size) s.heap H locs → lv_has ls 3 [(0, .ref (a 61))] → zWi p l e (headSpec wsX7_passes rm_X7_passes).room s m ([.ref (a 61), .int y1, .int y2] : List Value) below meth c D k a Q H locs (F0 m 18 ls [.int t0, .ref (a 61)]) := by
    intro t0 S H locs ls hm hP hS hl
    unfold X7_passes_b18 at hm
    have b33 : ∀ (t0 : Int32) (S : ZS) (H : Heap) (locs : List Loc) (ls : Array Slot), X7_passes_b33 t0 S Q → va_P D vwCl (zWS k a S) H → va_S (zA a s.heap.size) s.heap H locs → lv_has ls 3 [(0, .ref (a 61))] → zWi p l e (headSpec wsX7_passes rm_X7_passes).room s m ([.ref (a 61), .int y1, .int y2] : List Value) below meth c D k a Q H locs (F0 m 33 ls [.int t0]) := by
      intro t0 S H locs ls hm hP hS hl
      unfold X7_passes_b33 at hm
      exact z_retz hx hb hr hlocks hP hS hm dX7_passes_33
    refine zp_7_thrown hx hb hts i7 hown hj hK hP hS (hts _ (List.mem_of_getElem? (i := 1) rfl)) dX7_passes_18 (fun H locs hP hS => ?_)
    obtain ⟨S_18, eS_18⟩ : ∃ z : ZS, z = zu S 61 0 t0 := ⟨_, rfl⟩
    rw [← eS_18] at hP
    have hm := hm S_18 eS_18
    refine lv_aload_n hx hb dX7_passes_21 rfl (lv_at hl 0 rfl) ?_
    refine zg_7_thrown hx hb hts i7 hown hK hP (hts _ (List.mem_of_getElem? (i := 1) rfl)) dX7_passes_22 ?_
    refine lv_if_ne (tgt := 32) hx hb dX7_passes_25 (by decide) (fun c_25 => ?_) (fun c_25 => ?_)
    · have hm := hm.2 c_25
      refine lv_iconst (v := (0 : Int32)) hx hb dX7_passes_32 (by decide) ?_
      exact b33 (0 : Int32) S_18 _ _ _ hm hP hS (lv_sub hl [0] rfl)
    · have hm := hm.1 c_25
      refine lv_iconst (v := (1 : Int32)) hx hb dX7_passes_28 (by decide) ?_
      refine lv_goto (tgt := 33) hx hb dX7_passes_29 (by decide) ?_
      exact b33 (1 : Int32) S_18 _ _ _ hm hP hS (lv_sub hl [0] rfl)
  unfold X7_passes at hm
  refine lv_aload_n hx hb dX7_passes_0 rfl (lv_at hl 0 rfl) ?_
  refine lv_iload_n hx hb dX7_passes_1 rfl (lv_at hl 1 rfl) ?_
  refine lv_if_eq (tgt := 9) hx hb dX7_passes_2 (by decide) (fun c_2 => ?_) (fun c_2 => ?_)
  · have hm := hm.1 c_2
    refine lv_iload_n hx hb dX7_passes_9 rfl (lv_at hl 2 rfl) ?_
    refine lv_if_eq (tgt := 17) hx hb dX7_passes_10 (by decide) (fun c_10 => ?_) (fun c_10 => ?_)
    · have hm := hm.1 c_10
      refine lv_iconst (v := (0 : Int32)) hx hb dX7_passes_17 (by decide) ?_
      exact b18 (0 : Int32) S _ _ _ hm hP hS (lv_sub hl [0] rfl)
    · have hm := hm.2 c_10
      refine lv_iconst (v := (2 : Int32)) hx hb dX7_passes_13 (by decide) ?_
      refine lv_goto (tgt := 18) hx hb dX7_passes_14 (by decide) ?_
      exact b18 (2 : Int32) S _ _ _ hm hP hS (lv_sub hl [0] rfl)
  · have hm := hm.2 c_2
    refine lv_iconst (v := (1 : Int32)) hx hb dX7_passes_5 (by decide) ?_
    refine lv_goto (tgt := 18) hx hb dX7_passes_6 (by decide) ?_
    exact b18 (1 : Int32) S _ _ _ hm hP hS (lv_sub hl [0] rfl)

abbrev rm_X7_isColumn : Room := { frames := 1, cells := 0, slots := 0, locals := 25 }
def X7_isColumn (y1 : Int32) (S : ZS) (Q : Int32 → ZS → Prop) : Prop :=
  X7_within (Int32.toInt64 y1) (0 : Int64) (Int32.toInt64 ((S.1 61 1) - (1 : Int32))) S (fun r_10 S_10 => zbit r_10 ∧ Q r_10 S_10)
set_option maxHeartbeats 4000000 in
set_option maxRecDepth 100000 in
theorem c_X7_isColumn (l : Launch) (D : va_G) (k : Nat → ClassId) (a : Nat → Nat) (hj : zDj a) (y1 : Int32) (S : ZS) (Q : Int32 → ZS → Prop) (hm : X7_isColumn y1 S Q) (sz : Nat) : Met l yX7_isColumn wsX7_isColumn rm_X7_isColumn (zPc D k a [.ref (a 61), .int y1] S sz) (va_Qi Q (zB D k a) (zA a sz)) 0 0 (zA a sz) := by
  refine Met.ofW (cc := cX7_isColumn) (maxL := 2) (ret := (some .boolean)) (by decide) rfl ?_
  intro p e s m args below meth c s₁ B hml hv
  obtain ⟨rfl, hsz, hP, hK⟩ := hv
  have hx := B.exec
  have hb := B.bytes
  have hr := B.returns
  have hts := atoms_spec (ws := wsX7_isColumn) B.pre
  have hown : s.vm.findClass RX7 = some m.cls := findClass_of_methodNamed B.named
  have hlocks := B.notSynchronized
  subst hsz
  have hS : va_S (zA a s.heap.size) s.heap s.heap [] := va_S.rf
  have hF : CallFix p m c cX7_isColumn 2 s _ wsX7_isColumn RX7 := ⟨hx, hb, hml, hown, hts⟩
  have i7 : ∀ w ∈ wsX70, w ∈ wsX7_isColumn := fun _ h => (List.mem_cons_of_mem _ (List.mem_append_right _ h))
  have hl := lv_entry ([.ref (a 61), .int y1]) (n := 2) (Nat.le_of_ble_eq_true rfl)
  rw [lg_entry_eq]
  generalize (lg_sl ([.ref (a 61), .int y1]) ++ List.replicate (2 - (lg_sl ([.ref (a 61), .int y1])).length) Slot.unset).toArray = ls at hl ⊢
  have hl : lv_has ls 2 [(0, .ref (a 61)), (1, .int y1)] := hl
  unfold X7_isColumn at hm
  refine lv_iload_n hx hb dX7_isColumn_0 rfl (lv_at hl 1 rfl) ?_
  refine lv_i2l hx hb dX7_isColumn_1 rfl ?_
  refine lv_lconst (v := (0 : Int64)) hx hb dX7_isColumn_2 (by decide) ?_
  refine lv_aload_n hx hb dX7_isColumn_3 rfl (lv_at hl 0 rfl) ?_
  refine zg_7_columns hx hb hts i7 hown hK hP (hts _ (List.mem_of_getElem? (i := 1) rfl)) dX7_isColumn_4 ?_
  refine lv_iconst (v := (1 : Int32)) hx hb dX7_isColumn_7 (by decide) ?_
  refine lv_isub hx hb dX7_isColumn_8 ?_
  refine lv_i2l hx hb dX7_isColumn_9 rfl ?_
  refine z_cSi (As := [.long (Int32.toInt64 y1), .long (0 : Int64), .long (Int32.toInt64 ((S.1 61 1) - (1 : Int32)))]) (rest := []) hF hK hP hS (c_X7_within l D k a hj (Int32.toInt64 y1) (0 : Int64) (Int32.toInt64 ((S.1 61 1) - (1 : Int32))) S _ hm _) (va_cwS 3 hts gX7_isColumn_X7_within rfl rfl rfl (by decide +kernel) ⟨Nat.le_of_ble_eq_true rfl, Nat.le_of_ble_eq_true rfl⟩) rfl hl.1 rfl (Nat.le_of_ble_eq_true rfl) dX7_isColumn_10 ⟨Nat.zero_le _, Nat.zero_le _⟩ (fun r_10 S_10 H locs hm hP hS => ?_)
  exact z_retz hx hb hr hlocks hP hS hm dX7_isColumn_13

abbrev rm_X7_isRow : Room := { frames := 1, cells := 0, slots := 0, locals := 25 }
def X7_isRow (y1 : Int32) (S : ZS) (Q : Int32 → ZS → Prop) : Prop :=
  X7_within (Int32.toInt64 y1) (0 : Int64) (Int32.toInt64 ((S.1 61 2) - (1 : Int32))) S (fun r_10 S_10 => zbit r_10 ∧ Q r_10 S_10)
set_option maxHeartbeats 4000000 in
set_option maxRecDepth 100000 in
theorem c_X7_isRow (l : Launch) (D : va_G) (k : Nat → ClassId) (a : Nat → Nat) (hj : zDj a) (y1 : Int32) (S : ZS) (Q : Int32 → ZS → Prop) (hm : X7_isRow y1 S Q) (sz : Nat) : Met l yX7_isRow wsX7_isRow rm_X7_isRow (zPc D k a [.ref (a 61), .int y1] S sz) (va_Qi Q (zB D k a) (zA a sz)) 0 0 (zA a sz) := by
  refine Met.ofW (cc := cX7_isRow) (maxL := 2) (ret := (some .boolean)) (by decide) rfl ?_
  intro p e s m args below meth c s₁ B hml hv
  obtain ⟨rfl, hsz, hP, hK⟩ := hv
  have hx := B.exec
  have hb := B.bytes
  have hr := B.returns
  have hts := atoms_spec (ws := wsX7_isRow) B.pre
  have hown : s.vm.findClass RX7 = some m.cls := findClass_of_methodNamed B.named
  have hlocks := B.notSynchronized
  subst hsz
  have hS : va_S (zA a s.heap.size) s.heap s.heap [] := va_S.rf
  have hF : CallFix p m c cX7_isRow 2 s _ wsX7_isRow RX7 := ⟨hx, hb, hml, hown, hts⟩
  have i7 : ∀ w ∈ wsX70, w ∈ wsX7_isRow := fun _ h => (List.mem_cons_of_mem _ (List.mem_append_right _ h))
  have hl := lv_entry ([.ref (a 61), .int y1]) (n := 2) (Nat.le_of_ble_eq_true rfl)
  rw [lg_entry_eq]
  generalize (lg_sl ([.ref (a 61), .int y1]) ++ List.replicate (2 - (lg_sl ([.ref (a 61), .int y1])).length) Slot.unset).toArray = ls at hl ⊢
  have hl : lv_has ls 2 [(0, .ref (a 61)), (1, .int y1)] := hl
  unfold X7_isRow at hm
  refine lv_iload_n hx hb dX7_isRow_0 rfl (lv_at hl 1 rfl) ?_
  refine lv_i2l hx hb dX7_isRow_1 rfl ?_
  refine lv_lconst (v := (0 : Int64)) hx hb dX7_isRow_2 (by decide) ?_
  refine lv_aload_n hx hb dX7_isRow_3 rfl (lv_at hl 0 rfl) ?_
  refine zg_7_rows hx hb hts i7 hown hK hP (hts _ (List.mem_of_getElem? (i := 1) rfl)) dX7_isRow_4 ?_
  refine lv_iconst (v := (1 : Int32)) hx hb dX7_isRow_7 (by decide) ?_
  refine lv_isub hx hb dX7_isRow_8 ?_
  refine lv_i2l hx hb dX7_isRow_9 rfl ?_
  refine z_cSi (As := [.long (Int32.toInt64 y1), .long (0 : Int64), .long (Int32.toInt64 ((S.1 61 2) - (1 : Int32)))]) (rest := []) hF hK hP hS (c_X7_within l D k a hj (Int32.toInt64 y1) (0 : Int64) (Int32.toInt64 ((S.1 61 2) - (1 : Int32))) S _ hm _) (va_cwS 3 hts gX7_isRow_X7_within rfl rfl rfl (by decide +kernel) ⟨Nat.le_of_ble_eq_true rfl, Nat.le_of_ble_eq_true rfl⟩) rfl hl.1 rfl (Nat.le_of_ble_eq_true rfl) dX7_isRow_10 ⟨Nat.zero_le _, Nat.zero_le _⟩ (fun r_10 S_10 H locs hm hP hS => ?_)
  exact z_retz hx hb hr hlocks hP hS hm dX7_isRow_13

abbrev rm_X7_areBounds : Room := { frames := 1, cells := 0, slots := 0, locals := 25 }
def X7_areBounds_b32 (t0 : Int32) (S : ZS) (Q : Int32 → ZS → Prop) : Prop :=
  zbit t0 ∧ Q t0 S
def X7_areBounds_b31 (S : ZS) (Q : Int32 → ZS → Prop) : Prop :=
  X7_areBounds_b32 (0 : Int32) S Q
def X7_areBounds (y0 : Int32) (y1 : Int32) (S : ZS) (Q : Int32 → ZS → Prop) : Prop :=
  X7_within (Int32.toInt64 y0) (-1000 : Int64) (1000 : Int64) S (fun r_8 S_8 => (r_8 = 0 → X7_areBounds_b31 S_8 Q) ∧ (¬ r_8 = 0 → X7_within (Int32.toInt64 y1) (Int32.toInt64 y0) (1000 : Int64) S_8 (fun r_21 S_21 => (r_21 = 0 → X7_areBounds_b31 S_21 Q) ∧ (¬ r_21 = 0 → X7_areBounds_b32 (1 : Int32) S_21 Q))))
set_option maxHeartbeats 4000000 in
set_option maxRecDepth 100000 in
theorem c_X7_areBounds (l : Launch) (D : va_G) (k : Nat → ClassId) (a : Nat → Nat) (hj : zDj a) (y0 : Int32) (y1 : Int32) (S : ZS) (Q : Int32 → ZS → Prop) (hm : X7_areBounds y0 y1 S Q) (sz : Nat) : Met l yX7_areBounds wsX7_areBounds rm_X7_areBounds (zPc D k a [.int y0, .int y1] S sz) (va_Qi Q (zB D k a) (zA a sz)) 0 0 (zA a sz) := by
  refine Met.ofW (cc := cX7_areBounds) (maxL := 2) (ret := (some .boolean)) (by decide) rfl ?_
  intro p e s m args below meth c s₁ B hml hv
  obtain ⟨rfl, hsz, hP, hK⟩ := hv
  have hx := B.exec
  have hb := B.bytes
  have hr := B.returns
  have hts := atoms_spec (ws := wsX7_areBounds) B.pre
  have hown : s.vm.findClass RX7 = some m.cls := findClass_of_methodNamed B.named
  have hlocks := B.notSynchronized
  subst hsz
  have hS : va_S (zA a s.heap.size) s.heap s.heap [] := va_S.rf
  have hF : CallFix p m c cX7_areBounds 2 s _ wsX7_areBounds RX7 := ⟨hx, hb, hml, hown, hts⟩
  have hl := lv_entry ([.int y0, .int y1]) (n := 2) (Nat.le_of_ble_eq_true rfl)
  rw [lg_entry_eq]
  generalize (lg_sl ([.int y0, .int y1]) ++ List.replicate (2 - (lg_sl ([.int y0, .int y1])).length) Slot.unset).toArray = ls at hl ⊢
  have hl : lv_has ls 2 [(0, .int y0), (1, .int y1)] := hl
  have b32 : ∀ (t0 : Int32) (S : ZS) (H : Heap) (locs : List Loc) (ls : Array Slot), X7_areBounds_b32 t0 S Q → va_P D vwCl (zWS k a S) H → va_S (zA a s.heap.size) s.heap H locs → lv_has ls 2 [] → zWi p l e (headSpec wsX7_areBounds rm_X7_areBounds).room s m ([.int y0, .int y1] : List Value) below meth c D k a Q H locs (F0 m 32 ls [.int t0]) := by
    intro t0 S H locs ls hm hP hS hl
    unfold X7_areBounds_b32 at hm
    exact z_retz hx hb hr hlocks hP hS hm dX7_areBounds_32
  have b31 : ∀ (S : ZS) (H : Heap) (locs : List Loc) (ls : Array Slot), X7_areBounds_b31 S Q → va_P D vwCl (zWS k a S) H → va_S (zA a s.heap.size) s.heap H locs → lv_has ls 2 [] → zWi p l e (headSpec wsX7_areBounds rm_X7_areBounds).room s m ([.int y0, .int y1] : List Value) below meth c D k a Q H locs (F0 m 31 ls []) := by
    intro S H locs ls hm hP hS hl
    unfold X7_areBounds_b31 at hm
    refine lv_iconst (v := (0 : Int32)) hx hb dX7_areBounds_31 (by decide) ?_
    exact b32 (0 : Int32) S _ _ _ hm hP hS (lv_sub hl [] rfl)
  unfold X7_areBounds at hm
  refine lv_iload_n hx hb dX7_areBounds_0 rfl (lv_at hl 0 rfl) ?_
  refine lv_i2l hx hb dX7_areBounds_1 rfl ?_
  refine lv_ldc2 (v := (-1000 : Int64)) hx hb hown (hts _ (List.mem_of_getElem? (i := 1) rfl)) dX7_areBounds_2 ?_
  refine lv_ldc2 (v := (1000 : Int64)) hx hb hown (hts _ (List.mem_of_getElem? (i := 2) rfl)) dX7_areBounds_5 ?_
  refine z_cSi (As := [.long (Int32.toInt64 y0), .long (-1000 : Int64), .long (1000 : Int64)]) (rest := []) hF hK hP hS (c_X7_within l D k a hj (Int32.toInt64 y0) (-1000 : Int64) (1000 : Int64) S _ hm _) (va_cwS 3 hts gX7_areBounds_X7_within rfl rfl rfl (by decide +kernel) ⟨Nat.le_of_ble_eq_true rfl, Nat.le_of_ble_eq_true rfl⟩) rfl hl.1 rfl (Nat.le_of_ble_eq_true rfl) dX7_areBounds_8 ⟨Nat.zero_le _, Nat.zero_le _⟩ (fun r_8 S_8 H locs hm hP hS => ?_)
  refine lv_if_eq (tgt := 31) hx hb dX7_areBounds_11 (by decide) (fun c_11 => ?_) (fun c_11 => ?_)
  · have hm := hm.1 c_11
    exact b31  S_8 _ _ _ hm hP hS (lv_sub hl [] rfl)
  · have hm := hm.2 c_11
    refine lv_iload_n hx hb dX7_areBounds_14 rfl (lv_at hl 1 rfl) ?_
    refine lv_i2l hx hb dX7_areBounds_15 rfl ?_
    refine lv_iload_n hx hb dX7_areBounds_16 rfl (lv_at hl 0 rfl) ?_
    refine lv_i2l hx hb dX7_areBounds_17 rfl ?_
    refine lv_ldc2 (v := (1000 : Int64)) hx hb hown (hts _ (List.mem_of_getElem? (i := 2) rfl)) dX7_areBounds_18 ?_
    refine z_cSi (As := [.long (Int32.toInt64 y1), .long (Int32.toInt64 y0), .long (1000 : Int64)]) (rest := []) hF hK hP hS (c_X7_within l D k a hj (Int32.toInt64 y1) (Int32.toInt64 y0) (1000 : Int64) S_8 _ hm _) (va_cwS 3 hts gX7_areBounds_X7_within rfl rfl rfl (by decide +kernel) ⟨Nat.le_of_ble_eq_true rfl, Nat.le_of_ble_eq_true rfl⟩) rfl hl.1 rfl (Nat.le_of_ble_eq_true rfl) dX7_areBounds_21 ⟨Nat.zero_le _, Nat.zero_le _⟩ (fun r_21 S_21 H locs hm hP hS => ?_)
    refine lv_if_eq (tgt := 31) hx hb dX7_areBounds_24 (by decide) (fun c_24 => ?_) (fun c_24 => ?_)
    · have hm := hm.1 c_24
      exact b31  S_21 _ _ _ hm hP hS (lv_sub hl [] rfl)
    · have hm := hm.2 c_24
      refine lv_iconst (v := (1 : Int32)) hx hb dX7_areBounds_27 (by decide) ?_
      refine lv_goto (tgt := 32) hx hb dX7_areBounds_28 (by decide) ?_
      exact b32 (1 : Int32) S_21 _ _ _ hm hP hS (lv_sub hl [] rfl)

abbrev rm_X7_column : Room := { frames := 2, cells := 0, slots := 0, locals := 46 }
def X7_column_b112 (S : ZS) (Q : Int32 → ZS → Prop) : Prop :=
  ∀ S_119 : ZS, S_119 = zu S 61 1 ((S.1 61 1) + (1 : Int32)) → ∀ S_124 : ZS, S_124 = zu S_119 61 9 (-1 : Int32) → Q ((S_124.1 61 1) - (1 : Int32)) S_124
def X7_column_B83 (x4 : Int32) (S : ZS) (Q : Int32 → ZS → Prop) (k83 : Int32 × ZS → Prop) : Prop :=
  ((8 : Int32) ≤ x4 → X7_column_b112 S Q) ∧ (¬ (8 : Int32) ≤ x4 → vp_in (((10 : Int32) * x4) + (S.1 61 1)) 80 ∧ ∀ S_105 : ZS, S_105 = zu S 67 ((((10 : Int32) * x4) + (S.1 61 1))).toNatClampNeg (0 : Int32) → ∀ x4_106 : Int32, x4_106 = x4 + (1 : Int32) → k83 (x4_106, S_105))
def X7_column_L83 (Q : Int32 → ZS → Prop) : (Int32 × ZS) → ((Int32 × ZS) → Prop) → Prop := fun st k83 => X7_column_B83 st.1 st.2 Q k83
def X7_column_b42 (x1 : Int32) (x2 : Int32) (x3 : Int32) (t0 : Int32) (t1 : Int32) (S : ZS) (Q : Int32 → ZS → Prop) : Prop :=
  X7_passes t1 t0 S (fun r_42 S_42 => (r_42 = 0 → Q (0 : Int32) S_42) ∧ (¬ r_42 = 0 → vp_in (S_42.1 61 1) 10 ∧ ∀ S_59 : ZS, S_59 = zu S_42 62 ((S_42.1 61 1)).toNatClampNeg x1 → vp_in (S_59.1 61 1) 10 ∧ ∀ S_69 : ZS, S_69 = zu S_59 63 ((S_59.1 61 1)).toNatClampNeg x2 → vp_in (S_69.1 61 1) 10 ∧ ∀ S_79 : ZS, S_79 = zu S_69 64 ((S_69.1 61 1)).toNatClampNeg x3 → zl (X7_column_L83 Q) ((0 : Int32), S_79)))
def X7_column_b37 (x1 : Int32) (x2 : Int32) (x3 : Int32) (t0 : Int32) (S : ZS) (Q : Int32 → ZS → Prop) : Prop :=
  X7_column_b42 x1 x2 x3 (1 : Int32) t0 S Q
def X7_column_b15 (x1 : Int32) (x2 : Int32) (x3 : Int32) (t0 : Int32) (S : ZS) (Q : Int32 → ZS → Prop) : Prop :=
  X7_areBounds x1 x2 S (fun r_17 S_17 => (r_17 = 0 → X7_column_b37 x1 x2 x3 t0 S_17 Q) ∧ (¬ r_17 = 0 → X7_within (Int32.toInt64 x3) (-1000 : Int64) (1000 : Int64) S_17 (fun r_31 S_31 => (r_31 = 0 → X7_column_b37 x1 x2 x3 t0 S_31 Q) ∧ (¬ r_31 = 0 → X7_column_b42 x1 x2 x3 (0 : Int32) t0 S_31 Q))))
def X7_column (y1 : Int32) (y2 : Int32) (y3 : Int32) (S : ZS) (Q : Int32 → ZS → Prop) : Prop :=
  ((S.1 61 1) = (10 : Int32) → X7_column_b15 y1 y2 y3 (1 : Int32) S Q) ∧ (¬ (S.1 61 1) = (10 : Int32) → X7_column_b15 y1 y2 y3 (0 : Int32) S Q)
set_option maxHeartbeats 4000000 in
set_option maxRecDepth 100000 in
theorem c_X7_column (l : Launch) (D : va_G) (k : Nat → ClassId) (a : Nat → Nat) (hj : zDj a) (y1 : Int32) (y2 : Int32) (y3 : Int32) (S : ZS) (Q : Int32 → ZS → Prop) (hm : X7_column y1 y2 y3 S Q) (sz : Nat) : Met l yX7_column wsX7_column rm_X7_column (zPc D k a [.ref (a 61), .int y1, .int y2, .int y3] S sz) (va_Qi Q (zB D k a) (zA a sz)) 0 0 (zA a sz) := by
  refine Met.ofW (cc := cX7_column) (maxL := 5) (ret := (some .int)) (by decide) rfl ?_
  intro p e s m args below meth c s₁ B hml hv
  obtain ⟨rfl, hsz, hP, hK⟩ := hv
  have hx := B.exec
  have hb := B.bytes
  have hr := B.returns
  have hts := atoms_spec (ws := wsX7_column) B.pre
  have hown : s.vm.findClass RX7 = some m.cls := findClass_of_methodNamed B.named
  have hlocks := B.notSynchronized
  subst hsz
  have hS : va_S (zA a s.heap.size) s.heap s.heap [] := va_S.rf
  have hF : CallFix p m c cX7_column 5 s _ wsX7_column RX7 := ⟨hx, hb, hml, hown, hts⟩
  have i7 : ∀ w ∈ wsX70, w ∈ wsX7_column := fun _ h => (List.mem_cons_of_mem _ (List.mem_append_right _ h))
  have hl := lv_entry ([.ref (a 61), .int y1, .int y2, .int y3]) (n := 5) (Nat.le_of_ble_eq_true rfl)
  rw [lg_entry_eq]
  generalize (lg_sl ([.ref (a 61), .int y1, .int y2, .int y3]) ++ List.replicate (5 - (lg_sl ([.ref (a 61), .int y1, .int y2, .int y3])).length) Slot.unset).toArray = ls at hl ⊢
  have hl : lv_has ls 5 [(0, .ref (a 61)), (1, .int y1), (2, .int y2), (3, .int y3)] := hl
  have b15 : ∀ (x1 : Int32) (x2 : Int32) (x3 : Int32) (t0 : Int32) (S : ZS) (H : Heap) (locs : List Loc) (ls : Array Slot), X7_column_b15 x1 x2 x3 t0 S Q → va_P D vwCl (zWS k a S) H → va_S (zA a s.heap.size) s.heap H locs → lv_has ls 5 [(0, .ref (a 61)), (1, .int x1), (2, .int x2), (3, .int x3)] → zWi p l e (headSpec wsX7_column rm_X7_column).room s m ([.ref (a 61), .int y1, .int y2, .int y3] : List Value) below meth c D k a Q H locs (F0 m 15 ls [.int t0, .ref (a 61)]) := by
    intro x1 x2 x3 t0 S H locs ls hm hP hS hl
    unfold X7_column_b15 at hm
    have b42 : ∀ (x1 : Int32) (x2 : Int32) (x3 : Int32) (t0 : Int32) (t1 : Int32) (S : ZS) (H : Heap) (locs : List Loc) (ls : Array Slot), X7_column_b42 x1 x2 x3 t0 t1 S Q → va_P D vwCl (zWS k a S) H → va_S (zA a s.heap.size) s.heap H locs → lv_has ls 5 [(0, .ref (a 61)), (1, .int x1), (2, .int x2), (3, .int x3)] → zWi p l e (headSpec wsX7_column rm_X7_column).room s m ([.ref (a 61), .int y1, .int y2, .int y3] : List Value) below meth c D k a Q H locs (F0 m 42 ls [.int t0, .int t1, .ref (a 61)]) := by
      intro x1 x2 x3 t0 t1 S H locs ls hm hP hS hl
      unfold X7_column_b42 at hm
      have b112 : ∀ (S : ZS) (H : Heap) (locs : List Loc) (ls : Array Slot), X7_column_b112 S Q → va_P D vwCl (zWS k a S) H → va_S (zA a s.heap.size) s.heap H locs → lv_has ls 5 [(0, .ref (a 61))] → zWi p l e (headSpec wsX7_column rm_X7_column).room s m ([.ref (a 61), .int y1, .int y2, .int y3] : List Value) below meth c D k a Q H locs (F0 m 112 ls []) := by
        intro S H locs ls hm hP hS hl
        unfold X7_column_b112 at hm
        refine lv_aload_n hx hb dX7_column_112 rfl (lv_at hl 0 rfl) ?_
        refine lv_dup hx hb dX7_column_113 rfl ?_
        refine zg_7_columns hx hb hts i7 hown hK hP (hts _ (List.mem_of_getElem? (i := 1) rfl)) dX7_column_114 ?_
        refine lv_iconst (v := (1 : Int32)) hx hb dX7_column_117 (by decide) ?_
        refine lv_iadd hx hb dX7_column_118 ?_
        refine zp_7_columns hx hb hts i7 hown hj hK hP hS (hts _ (List.mem_of_getElem? (i := 1) rfl)) dX7_column_119 (fun H locs hP hS => ?_)
        obtain ⟨S_119, eS_119⟩ : ∃ z : ZS, z = zu S 61 1 ((S.1 61 1) + (1 : Int32)) := ⟨_, rfl⟩
        rw [← eS_119] at hP
        have hm := hm S_119 eS_119
        refine lv_aload_n hx hb dX7_column_122 rfl (lv_at hl 0 rfl) ?_
        refine lv_iconst (v := (-1 : Int32)) hx hb dX7_column_123 (by decide) ?_
        refine zp_7_solved hx hb hts i7 hown hj hK hP hS (hts _ (List.mem_of_getElem? (i := 8) rfl)) dX7_column_124 (fun H locs hP hS => ?_)
        obtain ⟨S_124, eS_124⟩ : ∃ z : ZS, z = zu S_119 61 9 (-1 : Int32) := ⟨_, rfl⟩
        rw [← eS_124] at hP
        have hm := hm S_124 eS_124
        refine lv_aload_n hx hb dX7_column_127 rfl (lv_at hl 0 rfl) ?_
        refine zg_7_columns hx hb hts i7 hown hK hP (hts _ (List.mem_of_getElem? (i := 1) rfl)) dX7_column_128 ?_
        refine lv_iconst (v := (1 : Int32)) hx hb dX7_column_131 (by decide) ?_
        refine lv_isub hx hb dX7_column_132 ?_
        exact z_reti hx hb hr hlocks hP hS hm dX7_column_133
      have L83 : ∀ (n : Nat) (x4 : Int32) (S : ZS) (H : Heap) (locs : List Loc) (ls : Array Slot), zn (X7_column_L83 Q) n (x4, S) → va_P D vwCl (zWS k a S) H → va_S (zA a s.heap.size) s.heap H locs → lv_has ls 5 [(0, .ref (a 61)), (4, .int x4)] → zWi p l e (headSpec wsX7_column rm_X7_column).room s m ([.ref (a 61), .int y1, .int y2, .int y3] : List Value) below meth c D k a Q H locs (F0 m 83 ls []) := by
        intro n
        induction n with
        | zero =>
          intro x4 S H locs ls hm
          exact hm.elim
        | succ n ih83 =>
          intro x4 S H locs ls hm hP hS hl
          have hm : X7_column_B83 x4 S Q (zn (X7_column_L83 Q) n) := hm
          generalize zn (X7_column_L83 Q) n = k83 at hm ih83
          unfold X7_column_B83 at hm
          refine lv_iload hx hb dX7_column_83 (lv_at hl 1 rfl) ?_
          refine lv_bipush (v := (8 : Int32)) hx hb dX7_column_85 (by decide) ?_
          refine lv_icmp_ge (tgt := 112) hx hb dX7_column_87 (by decide) (fun c_87 => ?_) (fun c_87 => ?_)
          · have hm := hm.1 c_87
            exact b112  S _ _ _ hm hP hS (lv_sub hl [0] rfl)
          · have hm := hm.2 c_87
            refine lv_aload_n hx hb dX7_column_90 rfl (lv_at hl 0 rfl) ?_
            refine zg_7_coefs hx hb hts i7 hown hK hP (hts _ (List.mem_of_getElem? (i := 7) rfl)) dX7_column_91 ?_
            refine lv_bipush (v := (10 : Int32)) hx hb dX7_column_94 (by decide) ?_
            refine lv_iload hx hb dX7_column_96 (lv_at hl 1 rfl) ?_
            refine lv_imul hx hb dX7_column_98 ?_
            refine lv_aload_n hx hb dX7_column_99 rfl (lv_at hl 0 rfl) ?_
            refine zg_7_columns hx hb hts i7 hown hK hP (hts _ (List.mem_of_getElem? (i := 1) rfl)) dX7_column_100 ?_
            refine lv_iadd hx hb dX7_column_103 ?_
            refine lv_iconst (v := (0 : Int32)) hx hb dX7_column_104 (by decide) ?_
            obtain ⟨h_105, hm⟩ := hm
            refine z_iast hx hb hj hK hP hS zI_67 h_105 dX7_column_105 (fun H locs hP hS => ?_)
            obtain ⟨S_105, eS_105⟩ : ∃ z : ZS, z = zu S 67 ((((10 : Int32) * x4) + (S.1 61 1))).toNatClampNeg (0 : Int32) := ⟨_, rfl⟩
            rw [← eS_105] at hP
            have hm := hm S_105 eS_105
            obtain ⟨x4_106, ex4_106⟩ : ∃ y : Int32, y = x4 + (1 : Int32) := ⟨_, rfl⟩
            have hm := hm x4_106 ex4_106
            refine lv_iinc (v := x4_106) (lv' := [(4, .int x4_106), (0, .ref (a 61))]) hx hb dX7_column_106 hl (k := 1) rfl (by rw [ex4_106]; rfl) (by decide) rfl (fun ls hl => ?_)
            refine lv_goto (tgt := 83) hx hb dX7_column_109 (by decide) ?_
            exact ih83 x4_106 S_105 _ _ _ hm hP hS (lv_sub hl [1, 0] rfl)
      refine z_cVi (As := [.int t1, .int t0]) (rest := []) hF hK hP hS zO_61 rfl rfl (c_X7_passes l D k a hj t1 t0 S _ hm _) (cwV 2 hts gX7_column_X7_passes rfl rfl rfl (by decide +kernel) ⟨Nat.le_of_ble_eq_true rfl, Nat.le_of_ble_eq_true rfl⟩) rfl hl.1 rfl (Nat.le_of_ble_eq_true rfl) dX7_column_42 ⟨Nat.zero_le _, Nat.zero_le _⟩ (fun r_42 S_42 H locs hm hP hS => ?_)
      refine lv_if_ne (tgt := 50) hx hb dX7_column_45 (by decide) (fun c_45 => ?_) (fun c_45 => ?_)
      · have hm := hm.2 c_45
        refine lv_aload_n hx hb dX7_column_50 rfl (lv_at hl 0 rfl) ?_
        refine zg_7_lows hx hb hts i7 hown hK hP (hts _ (List.mem_of_getElem? (i := 4) rfl)) dX7_column_51 ?_
        refine lv_aload_n hx hb dX7_column_54 rfl (lv_at hl 0 rfl) ?_
        refine zg_7_columns hx hb hts i7 hown hK hP (hts _ (List.mem_of_getElem? (i := 1) rfl)) dX7_column_55 ?_
        refine lv_iload_n hx hb dX7_column_58 rfl (lv_at hl 1 rfl) ?_
        obtain ⟨h_59, hm⟩ := hm
        refine z_iast hx hb hj hK hP hS zI_62 h_59 dX7_column_59 (fun H locs hP hS => ?_)
        obtain ⟨S_59, eS_59⟩ : ∃ z : ZS, z = zu S_42 62 ((S_42.1 61 1)).toNatClampNeg x1 := ⟨_, rfl⟩
        rw [← eS_59] at hP
        have hm := hm S_59 eS_59
        refine lv_aload_n hx hb dX7_column_60 rfl (lv_at hl 0 rfl) ?_
        refine zg_7_highs hx hb hts i7 hown hK hP (hts _ (List.mem_of_getElem? (i := 5) rfl)) dX7_column_61 ?_
        refine lv_aload_n hx hb dX7_column_64 rfl (lv_at hl 0 rfl) ?_
        refine zg_7_columns hx hb hts i7 hown hK hP (hts _ (List.mem_of_getElem? (i := 1) rfl)) dX7_column_65 ?_
        refine lv_iload_n hx hb dX7_column_68 rfl (lv_at hl 2 rfl) ?_
        obtain ⟨h_69, hm⟩ := hm
        refine z_iast hx hb hj hK hP hS zI_63 h_69 dX7_column_69 (fun H locs hP hS => ?_)
        obtain ⟨S_69, eS_69⟩ : ∃ z : ZS, z = zu S_59 63 ((S_59.1 61 1)).toNatClampNeg x2 := ⟨_, rfl⟩
        rw [← eS_69] at hP
        have hm := hm S_69 eS_69
        refine lv_aload_n hx hb dX7_column_70 rfl (lv_at hl 0 rfl) ?_
        refine zg_7_costs hx hb hts i7 hown hK hP (hts _ (List.mem_of_getElem? (i := 6) rfl)) dX7_column_71 ?_
        refine lv_aload_n hx hb dX7_column_74 rfl (lv_at hl 0 rfl) ?_
        refine zg_7_columns hx hb hts i7 hown hK hP (hts _ (List.mem_of_getElem? (i := 1) rfl)) dX7_column_75 ?_
        refine lv_iload_n hx hb dX7_column_78 rfl (lv_at hl 3 rfl) ?_
        obtain ⟨h_79, hm⟩ := hm
        refine z_iast hx hb hj hK hP hS zI_64 h_79 dX7_column_79 (fun H locs hP hS => ?_)
        obtain ⟨S_79, eS_79⟩ : ∃ z : ZS, z = zu S_69 64 ((S_69.1 61 1)).toNatClampNeg x3 := ⟨_, rfl⟩
        rw [← eS_79] at hP
        have hm := hm S_79 eS_79
        refine lv_iconst (v := (0 : Int32)) hx hb dX7_column_80 (by decide) ?_
        refine lv_istore (lv' := [(4, .int (0 : Int32)), (0, .ref (a 61)), (1, .int x1), (2, .int x2), (3, .int x3)]) hx hb dX7_column_81 hl (by decide) rfl (fun ls hl => ?_)
        obtain ⟨n83, hm⟩ := hm
        exact L83 n83 (0 : Int32) S_79 _ _ _ hm hP hS (lv_sub hl [1, 0] rfl)
      · have hm := hm.1 c_45
        refine lv_iconst (v := (0 : Int32)) hx hb dX7_column_48 (by decide) ?_
        exact z_reti hx hb hr hlocks hP hS hm dX7_column_49
    have b37 : ∀ (x1 : Int32) (x2 : Int32) (x3 : Int32) (t0 : Int32) (S : ZS) (H : Heap) (locs : List Loc) (ls : Array Slot), X7_column_b37 x1 x2 x3 t0 S Q → va_P D vwCl (zWS k a S) H → va_S (zA a s.heap.size) s.heap H locs → lv_has ls 5 [(0, .ref (a 61)), (1, .int x1), (2, .int x2), (3, .int x3)] → zWi p l e (headSpec wsX7_column rm_X7_column).room s m ([.ref (a 61), .int y1, .int y2, .int y3] : List Value) below meth c D k a Q H locs (F0 m 37 ls [.int t0, .ref (a 61)]) := by
      intro x1 x2 x3 t0 S H locs ls hm hP hS hl
      unfold X7_column_b37 at hm
      refine lv_iconst (v := (1 : Int32)) hx hb dX7_column_37 (by decide) ?_
      refine lv_goto (tgt := 42) hx hb dX7_column_38 (by decide) ?_
      exact b42 x1 x2 x3 (1 : Int32) t0 S _ _ _ hm hP hS (lv_sub hl [0, 1, 2, 3] rfl)
    refine lv_iload_n hx hb dX7_column_15 rfl (lv_at hl 1 rfl) ?_
    refine lv_iload_n hx hb dX7_column_16 rfl (lv_at hl 2 rfl) ?_
    refine z_cSi (As := [.int x1, .int x2]) (rest := [.int t0, .ref (a 61)]) hF hK hP hS (c_X7_areBounds l D k a hj x1 x2 S _ hm _) (va_cwS 2 hts gX7_column_X7_areBounds rfl rfl rfl (by decide +kernel) ⟨Nat.le_of_ble_eq_true rfl, Nat.le_of_ble_eq_true rfl⟩) rfl hl.1 rfl (Nat.le_of_ble_eq_true rfl) dX7_column_17 ⟨Nat.zero_le _, Nat.zero_le _⟩ (fun r_17 S_17 H locs hm hP hS => ?_)
    refine lv_if_eq (tgt := 37) hx hb dX7_column_20 (by decide) (fun c_20 => ?_) (fun c_20 => ?_)
    · have hm := hm.1 c_20
      exact b37 x1 x2 x3 t0 S_17 _ _ _ hm hP hS (lv_sub hl [0, 1, 2, 3] rfl)
    · have hm := hm.2 c_20
      refine lv_iload_n hx hb dX7_column_23 rfl (lv_at hl 3 rfl) ?_
      refine lv_i2l hx hb dX7_column_24 rfl ?_
      refine lv_ldc2 (v := (-1000 : Int64)) hx hb hown (hts _ (List.mem_of_getElem? (i := 2) rfl)) dX7_column_25 ?_
      refine lv_ldc2 (v := (1000 : Int64)) hx hb hown (hts _ (List.mem_of_getElem? (i := 3) rfl)) dX7_column_28 ?_
      refine z_cSi (As := [.long (Int32.toInt64 x3), .long (-1000 : Int64), .long (1000 : Int64)]) (rest := [.int t0, .ref (a 61)]) hF hK hP hS (c_X7_within l D k a hj (Int32.toInt64 x3) (-1000 : Int64) (1000 : Int64) S_17 _ hm _) (va_cwS 3 hts gX7_column_X7_within rfl rfl rfl (by decide +kernel) ⟨Nat.le_of_ble_eq_true rfl, Nat.le_of_ble_eq_true rfl⟩) rfl hl.1 rfl (Nat.le_of_ble_eq_true rfl) dX7_column_31 ⟨Nat.zero_le _, Nat.zero_le _⟩ (fun r_31 S_31 H locs hm hP hS => ?_)
      refine lv_if_ne (tgt := 41) hx hb dX7_column_34 (by decide) (fun c_34 => ?_) (fun c_34 => ?_)
      · have hm := hm.2 c_34
        refine lv_iconst (v := (0 : Int32)) hx hb dX7_column_41 (by decide) ?_
        exact b42 x1 x2 x3 (0 : Int32) t0 S_31 _ _ _ hm hP hS (lv_sub hl [0, 1, 2, 3] rfl)
      · have hm := hm.1 c_34
        exact b37 x1 x2 x3 t0 S_31 _ _ _ hm hP hS (lv_sub hl [0, 1, 2, 3] rfl)
  unfold X7_column at hm
  refine lv_aload_n hx hb dX7_column_0 rfl (lv_at hl 0 rfl) ?_
  refine lv_aload_n hx hb dX7_column_1 rfl (lv_at hl 0 rfl) ?_
  refine zg_7_columns hx hb hts i7 hown hK hP (hts _ (List.mem_of_getElem? (i := 1) rfl)) dX7_column_2 ?_
  refine lv_bipush (v := (10 : Int32)) hx hb dX7_column_5 (by decide) ?_
  refine lv_icmp_ne (tgt := 14) hx hb dX7_column_7 (by decide) (fun c_7 => ?_) (fun c_7 => ?_)
  · have hm := hm.2 c_7
    refine lv_iconst (v := (0 : Int32)) hx hb dX7_column_14 (by decide) ?_
    exact b15 y1 y2 y3 (0 : Int32) S _ _ _ hm hP hS (lv_sub hl [0, 1, 2, 3] rfl)
  · have hm := hm.1 c_7
    refine lv_iconst (v := (1 : Int32)) hx hb dX7_column_10 (by decide) ?_
    refine lv_goto (tgt := 15) hx hb dX7_column_11 (by decide) ?_
    exact b15 y1 y2 y3 (1 : Int32) S _ _ _ hm hP hS (lv_sub hl [0, 1, 2, 3] rfl)

abbrev rm_X7_row : Room := { frames := 1, cells := 0, slots := 0, locals := 25 }
def X7_row_b101 (S : ZS) (Q : Int32 → ZS → Prop) : Prop :=
  ∀ S_108 : ZS, S_108 = zu S 61 2 ((S.1 61 2) + (1 : Int32)) → ∀ S_113 : ZS, S_113 = zu S_108 61 9 (-1 : Int32) → Q ((S_113.1 61 2) - (1 : Int32)) S_113
def X7_row_B74 (x3 : Int32) (S : ZS) (Q : Int32 → ZS → Prop) (k74 : Int32 × ZS → Prop) : Prop :=
  ((10 : Int32) ≤ x3 → X7_row_b101 S Q) ∧ (¬ (10 : Int32) ≤ x3 → vp_in (((10 : Int32) * (S.1 61 2)) + x3) 80 ∧ ∀ S_94 : ZS, S_94 = zu S 67 ((((10 : Int32) * (S.1 61 2)) + x3)).toNatClampNeg (0 : Int32) → ∀ x3_95 : Int32, x3_95 = x3 + (1 : Int32) → k74 (x3_95, S_94))
def X7_row_L74 (Q : Int32 → ZS → Prop) : (Int32 × ZS) → ((Int32 × ZS) → Prop) → Prop := fun st k74 => X7_row_B74 st.1 st.2 Q k74
def X7_row_b44 (x1 : Int32) (x2 : Int32) (t0 : Int32) (t1 : Int32) (S : ZS) (Q : Int32 → ZS → Prop) : Prop :=
  X7_passes t1 t0 S (fun r_44 S_44 => (r_44 = 0 → Q (0 : Int32) S_44) ∧ (¬ r_44 = 0 → vp_in (S_44.1 61 2) 8 ∧ ∀ S_61 : ZS, S_61 = zu S_44 65 ((S_44.1 61 2)).toNatClampNeg x1 → vp_in (S_61.1 61 2) 8 ∧ ∀ S_71 : ZS, S_71 = zu S_61 66 ((S_61.1 61 2)).toNatClampNeg x2 → zl (X7_row_L74 Q) ((0 : Int32), S_71)))
def X7_row_b39 (x1 : Int32) (x2 : Int32) (t0 : Int32) (S : ZS) (Q : Int32 → ZS → Prop) : Prop :=
  X7_row_b44 x1 x2 (1 : Int32) t0 S Q
def X7_row_b15 (x1 : Int32) (x2 : Int32) (t0 : Int32) (S : ZS) (Q : Int32 → ZS → Prop) : Prop :=
  X7_within (Int32.toInt64 x1) (0 : Int64) (1 : Int64) S (fun r_19 S_19 => (r_19 = 0 → X7_row_b39 x1 x2 t0 S_19 Q) ∧ (¬ r_19 = 0 → X7_within (Int32.toInt64 x2) (-100000 : Int64) (100000 : Int64) S_19 (fun r_33 S_33 => (r_33 = 0 → X7_row_b39 x1 x2 t0 S_33 Q) ∧ (¬ r_33 = 0 → X7_row_b44 x1 x2 (0 : Int32) t0 S_33 Q))))
def X7_row (y1 : Int32) (y2 : Int32) (S : ZS) (Q : Int32 → ZS → Prop) : Prop :=
  ((S.1 61 2) = (8 : Int32) → X7_row_b15 y1 y2 (1 : Int32) S Q) ∧ (¬ (S.1 61 2) = (8 : Int32) → X7_row_b15 y1 y2 (0 : Int32) S Q)
set_option maxHeartbeats 4000000 in
set_option maxRecDepth 100000 in
theorem c_X7_row (l : Launch) (D : va_G) (k : Nat → ClassId) (a : Nat → Nat) (hj : zDj a) (y1 : Int32) (y2 : Int32) (S : ZS) (Q : Int32 → ZS → Prop) (hm : X7_row y1 y2 S Q) (sz : Nat) : Met l yX7_row wsX7_row rm_X7_row (zPc D k a [.ref (a 61), .int y1, .int y2] S sz) (va_Qi Q (zB D k a) (zA a sz)) 0 0 (zA a sz) := by
  refine Met.ofW (cc := cX7_row) (maxL := 4) (ret := (some .int)) (by decide) rfl ?_
  intro p e s m args below meth c s₁ B hml hv
  obtain ⟨rfl, hsz, hP, hK⟩ := hv
  have hx := B.exec
  have hb := B.bytes
  have hr := B.returns
  have hts := atoms_spec (ws := wsX7_row) B.pre
  have hown : s.vm.findClass RX7 = some m.cls := findClass_of_methodNamed B.named
  have hlocks := B.notSynchronized
  subst hsz
  have hS : va_S (zA a s.heap.size) s.heap s.heap [] := va_S.rf
  have hF : CallFix p m c cX7_row 4 s _ wsX7_row RX7 := ⟨hx, hb, hml, hown, hts⟩
  have i7 : ∀ w ∈ wsX70, w ∈ wsX7_row := fun _ h => (List.mem_cons_of_mem _ (List.mem_append_right _ h))
  have hl := lv_entry ([.ref (a 61), .int y1, .int y2]) (n := 4) (Nat.le_of_ble_eq_true rfl)
  rw [lg_entry_eq]
  generalize (lg_sl ([.ref (a 61), .int y1, .int y2]) ++ List.replicate (4 - (lg_sl ([.ref (a 61), .int y1, .int y2])).length) Slot.unset).toArray = ls at hl ⊢
  have hl : lv_has ls 4 [(0, .ref (a 61)), (1, .int y1), (2, .int y2)] := hl
  have b15 : ∀ (x1 : Int32) (x2 : Int32) (t0 : Int32) (S : ZS) (H : Heap) (locs : List Loc) (ls : Array Slot), X7_row_b15 x1 x2 t0 S Q → va_P D vwCl (zWS k a S) H → va_S (zA a s.heap.size) s.heap H locs → lv_has ls 4 [(0, .ref (a 61)), (1, .int x1), (2, .int x2)] → zWi p l e (headSpec wsX7_row rm_X7_row).room s m ([.ref (a 61), .int y1, .int y2] : List Value) below meth c D k a Q H locs (F0 m 15 ls [.int t0, .ref (a 61)]) := by
    intro x1 x2 t0 S H locs ls hm hP hS hl
    unfold X7_row_b15 at hm
    have b44 : ∀ (x1 : Int32) (x2 : Int32) (t0 : Int32) (t1 : Int32) (S : ZS) (H : Heap) (locs : List Loc) (ls : Array Slot), X7_row_b44 x1 x2 t0 t1 S Q → va_P D vwCl (zWS k a S) H → va_S (zA a s.heap.size) s.heap H locs → lv_has ls 4 [(0, .ref (a 61)), (1, .int x1), (2, .int x2)] → zWi p l e (headSpec wsX7_row rm_X7_row).room s m ([.ref (a 61), .int y1, .int y2] : List Value) below meth c D k a Q H locs (F0 m 44 ls [.int t0, .int t1, .ref (a 61)]) := by
      intro x1 x2 t0 t1 S H locs ls hm hP hS hl
      unfold X7_row_b44 at hm
      have b101 : ∀ (S : ZS) (H : Heap) (locs : List Loc) (ls : Array Slot), X7_row_b101 S Q → va_P D vwCl (zWS k a S) H → va_S (zA a s.heap.size) s.heap H locs → lv_has ls 4 [(0, .ref (a 61))] → zWi p l e (headSpec wsX7_row rm_X7_row).room s m ([.ref (a 61), .int y1, .int y2] : List Value) below meth c D k a Q H locs (F0 m 101 ls []) := by
        intro S H locs ls hm hP hS hl
        unfold X7_row_b101 at hm
        refine lv_aload_n hx hb dX7_row_101 rfl (lv_at hl 0 rfl) ?_
        refine lv_dup hx hb dX7_row_102 rfl ?_
        refine zg_7_rows hx hb hts i7 hown hK hP (hts _ (List.mem_of_getElem? (i := 1) rfl)) dX7_row_103 ?_
        refine lv_iconst (v := (1 : Int32)) hx hb dX7_row_106 (by decide) ?_
        refine lv_iadd hx hb dX7_row_107 ?_
        refine zp_7_rows hx hb hts i7 hown hj hK hP hS (hts _ (List.mem_of_getElem? (i := 1) rfl)) dX7_row_108 (fun H locs hP hS => ?_)
        obtain ⟨S_108, eS_108⟩ : ∃ z : ZS, z = zu S 61 2 ((S.1 61 2) + (1 : Int32)) := ⟨_, rfl⟩
        rw [← eS_108] at hP
        have hm := hm S_108 eS_108
        refine lv_aload_n hx hb dX7_row_111 rfl (lv_at hl 0 rfl) ?_
        refine lv_iconst (v := (-1 : Int32)) hx hb dX7_row_112 (by decide) ?_
        refine zp_7_solved hx hb hts i7 hown hj hK hP hS (hts _ (List.mem_of_getElem? (i := 7) rfl)) dX7_row_113 (fun H locs hP hS => ?_)
        obtain ⟨S_113, eS_113⟩ : ∃ z : ZS, z = zu S_108 61 9 (-1 : Int32) := ⟨_, rfl⟩
        rw [← eS_113] at hP
        have hm := hm S_113 eS_113
        refine lv_aload_n hx hb dX7_row_116 rfl (lv_at hl 0 rfl) ?_
        refine zg_7_rows hx hb hts i7 hown hK hP (hts _ (List.mem_of_getElem? (i := 1) rfl)) dX7_row_117 ?_
        refine lv_iconst (v := (1 : Int32)) hx hb dX7_row_120 (by decide) ?_
        refine lv_isub hx hb dX7_row_121 ?_
        exact z_reti hx hb hr hlocks hP hS hm dX7_row_122
      have L74 : ∀ (n : Nat) (x3 : Int32) (S : ZS) (H : Heap) (locs : List Loc) (ls : Array Slot), zn (X7_row_L74 Q) n (x3, S) → va_P D vwCl (zWS k a S) H → va_S (zA a s.heap.size) s.heap H locs → lv_has ls 4 [(0, .ref (a 61)), (3, .int x3)] → zWi p l e (headSpec wsX7_row rm_X7_row).room s m ([.ref (a 61), .int y1, .int y2] : List Value) below meth c D k a Q H locs (F0 m 74 ls []) := by
        intro n
        induction n with
        | zero =>
          intro x3 S H locs ls hm
          exact hm.elim
        | succ n ih74 =>
          intro x3 S H locs ls hm hP hS hl
          have hm : X7_row_B74 x3 S Q (zn (X7_row_L74 Q) n) := hm
          generalize zn (X7_row_L74 Q) n = k74 at hm ih74
          unfold X7_row_B74 at hm
          refine lv_iload_n hx hb dX7_row_74 rfl (lv_at hl 1 rfl) ?_
          refine lv_bipush (v := (10 : Int32)) hx hb dX7_row_75 (by decide) ?_
          refine lv_icmp_ge (tgt := 101) hx hb dX7_row_77 (by decide) (fun c_77 => ?_) (fun c_77 => ?_)
          · have hm := hm.1 c_77
            exact b101  S _ _ _ hm hP hS (lv_sub hl [0] rfl)
          · have hm := hm.2 c_77
            refine lv_aload_n hx hb dX7_row_80 rfl (lv_at hl 0 rfl) ?_
            refine zg_7_coefs hx hb hts i7 hown hK hP (hts _ (List.mem_of_getElem? (i := 6) rfl)) dX7_row_81 ?_
            refine lv_bipush (v := (10 : Int32)) hx hb dX7_row_84 (by decide) ?_
            refine lv_aload_n hx hb dX7_row_86 rfl (lv_at hl 0 rfl) ?_
            refine zg_7_rows hx hb hts i7 hown hK hP (hts _ (List.mem_of_getElem? (i := 1) rfl)) dX7_row_87 ?_
            refine lv_imul hx hb dX7_row_90 ?_
            refine lv_iload_n hx hb dX7_row_91 rfl (lv_at hl 1 rfl) ?_
            refine lv_iadd hx hb dX7_row_92 ?_
            refine lv_iconst (v := (0 : Int32)) hx hb dX7_row_93 (by decide) ?_
            obtain ⟨h_94, hm⟩ := hm
            refine z_iast hx hb hj hK hP hS zI_67 h_94 dX7_row_94 (fun H locs hP hS => ?_)
            obtain ⟨S_94, eS_94⟩ : ∃ z : ZS, z = zu S 67 ((((10 : Int32) * (S.1 61 2)) + x3)).toNatClampNeg (0 : Int32) := ⟨_, rfl⟩
            rw [← eS_94] at hP
            have hm := hm S_94 eS_94
            obtain ⟨x3_95, ex3_95⟩ : ∃ y : Int32, y = x3 + (1 : Int32) := ⟨_, rfl⟩
            have hm := hm x3_95 ex3_95
            refine lv_iinc (v := x3_95) (lv' := [(3, .int x3_95), (0, .ref (a 61))]) hx hb dX7_row_95 hl (k := 1) rfl (by rw [ex3_95]; rfl) (by decide) rfl (fun ls hl => ?_)
            refine lv_goto (tgt := 74) hx hb dX7_row_98 (by decide) ?_
            exact ih74 x3_95 S_94 _ _ _ hm hP hS (lv_sub hl [1, 0] rfl)
      refine z_cVi (As := [.int t1, .int t0]) (rest := []) hF hK hP hS zO_61 rfl rfl (c_X7_passes l D k a hj t1 t0 S _ hm _) (cwV 2 hts gX7_row_X7_passes rfl rfl rfl (by decide +kernel) ⟨Nat.le_of_ble_eq_true rfl, Nat.le_of_ble_eq_true rfl⟩) rfl hl.1 rfl (Nat.le_of_ble_eq_true rfl) dX7_row_44 ⟨Nat.zero_le _, Nat.zero_le _⟩ (fun r_44 S_44 H locs hm hP hS => ?_)
      refine lv_if_ne (tgt := 52) hx hb dX7_row_47 (by decide) (fun c_47 => ?_) (fun c_47 => ?_)
      · have hm := hm.2 c_47
        refine lv_aload_n hx hb dX7_row_52 rfl (lv_at hl 0 rfl) ?_
        refine zg_7_kinds hx hb hts i7 hown hK hP (hts _ (List.mem_of_getElem? (i := 4) rfl)) dX7_row_53 ?_
        refine lv_aload_n hx hb dX7_row_56 rfl (lv_at hl 0 rfl) ?_
        refine zg_7_rows hx hb hts i7 hown hK hP (hts _ (List.mem_of_getElem? (i := 1) rfl)) dX7_row_57 ?_
        refine lv_iload_n hx hb dX7_row_60 rfl (lv_at hl 1 rfl) ?_
        obtain ⟨h_61, hm⟩ := hm
        refine z_iast hx hb hj hK hP hS zI_65 h_61 dX7_row_61 (fun H locs hP hS => ?_)
        obtain ⟨S_61, eS_61⟩ : ∃ z : ZS, z = zu S_44 65 ((S_44.1 61 2)).toNatClampNeg x1 := ⟨_, rfl⟩
        rw [← eS_61] at hP
        have hm := hm S_61 eS_61
        refine lv_aload_n hx hb dX7_row_62 rfl (lv_at hl 0 rfl) ?_
        refine zg_7_rights hx hb hts i7 hown hK hP (hts _ (List.mem_of_getElem? (i := 5) rfl)) dX7_row_63 ?_
        refine lv_aload_n hx hb dX7_row_66 rfl (lv_at hl 0 rfl) ?_
        refine zg_7_rows hx hb hts i7 hown hK hP (hts _ (List.mem_of_getElem? (i := 1) rfl)) dX7_row_67 ?_
        refine lv_iload_n hx hb dX7_row_70 rfl (lv_at hl 2 rfl) ?_
        obtain ⟨h_71, hm⟩ := hm
        refine z_iast hx hb hj hK hP hS zI_66 h_71 dX7_row_71 (fun H locs hP hS => ?_)
        obtain ⟨S_71, eS_71⟩ : ∃ z : ZS, z = zu S_61 66 ((S_61.1 61 2)).toNatClampNeg x2 := ⟨_, rfl⟩
        rw [← eS_71] at hP
        have hm := hm S_71 eS_71
        refine lv_iconst (v := (0 : Int32)) hx hb dX7_row_72 (by decide) ?_
        refine lv_istore_n (lv' := [(3, .int (0 : Int32)), (0, .ref (a 61)), (1, .int x1), (2, .int x2)]) hx hb dX7_row_73 rfl hl (by decide) rfl (fun ls hl => ?_)
        obtain ⟨n74, hm⟩ := hm
        exact L74 n74 (0 : Int32) S_71 _ _ _ hm hP hS (lv_sub hl [1, 0] rfl)
      · have hm := hm.1 c_47
        refine lv_iconst (v := (0 : Int32)) hx hb dX7_row_50 (by decide) ?_
        exact z_reti hx hb hr hlocks hP hS hm dX7_row_51
    have b39 : ∀ (x1 : Int32) (x2 : Int32) (t0 : Int32) (S : ZS) (H : Heap) (locs : List Loc) (ls : Array Slot), X7_row_b39 x1 x2 t0 S Q → va_P D vwCl (zWS k a S) H → va_S (zA a s.heap.size) s.heap H locs → lv_has ls 4 [(0, .ref (a 61)), (1, .int x1), (2, .int x2)] → zWi p l e (headSpec wsX7_row rm_X7_row).room s m ([.ref (a 61), .int y1, .int y2] : List Value) below meth c D k a Q H locs (F0 m 39 ls [.int t0, .ref (a 61)]) := by
      intro x1 x2 t0 S H locs ls hm hP hS hl
      unfold X7_row_b39 at hm
      refine lv_iconst (v := (1 : Int32)) hx hb dX7_row_39 (by decide) ?_
      refine lv_goto (tgt := 44) hx hb dX7_row_40 (by decide) ?_
      exact b44 x1 x2 (1 : Int32) t0 S _ _ _ hm hP hS (lv_sub hl [0, 1, 2] rfl)
    refine lv_iload_n hx hb dX7_row_15 rfl (lv_at hl 1 rfl) ?_
    refine lv_i2l hx hb dX7_row_16 rfl ?_
    refine lv_lconst (v := (0 : Int64)) hx hb dX7_row_17 (by decide) ?_
    refine lv_lconst (v := (1 : Int64)) hx hb dX7_row_18 (by decide) ?_
    refine z_cSi (As := [.long (Int32.toInt64 x1), .long (0 : Int64), .long (1 : Int64)]) (rest := [.int t0, .ref (a 61)]) hF hK hP hS (c_X7_within l D k a hj (Int32.toInt64 x1) (0 : Int64) (1 : Int64) S _ hm _) (va_cwS 3 hts gX7_row_X7_within rfl rfl rfl (by decide +kernel) ⟨Nat.le_of_ble_eq_true rfl, Nat.le_of_ble_eq_true rfl⟩) rfl hl.1 rfl (Nat.le_of_ble_eq_true rfl) dX7_row_19 ⟨Nat.zero_le _, Nat.zero_le _⟩ (fun r_19 S_19 H locs hm hP hS => ?_)
    refine lv_if_eq (tgt := 39) hx hb dX7_row_22 (by decide) (fun c_22 => ?_) (fun c_22 => ?_)
    · have hm := hm.1 c_22
      exact b39 x1 x2 t0 S_19 _ _ _ hm hP hS (lv_sub hl [0, 1, 2] rfl)
    · have hm := hm.2 c_22
      refine lv_iload_n hx hb dX7_row_25 rfl (lv_at hl 2 rfl) ?_
      refine lv_i2l hx hb dX7_row_26 rfl ?_
      refine lv_ldc2 (v := (-100000 : Int64)) hx hb hown (hts _ (List.mem_of_getElem? (i := 2) rfl)) dX7_row_27 ?_
      refine lv_ldc2 (v := (100000 : Int64)) hx hb hown (hts _ (List.mem_of_getElem? (i := 3) rfl)) dX7_row_30 ?_
      refine z_cSi (As := [.long (Int32.toInt64 x2), .long (-100000 : Int64), .long (100000 : Int64)]) (rest := [.int t0, .ref (a 61)]) hF hK hP hS (c_X7_within l D k a hj (Int32.toInt64 x2) (-100000 : Int64) (100000 : Int64) S_19 _ hm _) (va_cwS 3 hts gX7_row_X7_within rfl rfl rfl (by decide +kernel) ⟨Nat.le_of_ble_eq_true rfl, Nat.le_of_ble_eq_true rfl⟩) rfl hl.1 rfl (Nat.le_of_ble_eq_true rfl) dX7_row_33 ⟨Nat.zero_le _, Nat.zero_le _⟩ (fun r_33 S_33 H locs hm hP hS => ?_)
      refine lv_if_ne (tgt := 43) hx hb dX7_row_36 (by decide) (fun c_36 => ?_) (fun c_36 => ?_)
      · have hm := hm.2 c_36
        refine lv_iconst (v := (0 : Int32)) hx hb dX7_row_43 (by decide) ?_
        exact b44 x1 x2 (0 : Int32) t0 S_33 _ _ _ hm hP hS (lv_sub hl [0, 1, 2] rfl)
      · have hm := hm.1 c_36
        exact b39 x1 x2 t0 S_33 _ _ _ hm hP hS (lv_sub hl [0, 1, 2] rfl)
  unfold X7_row at hm
  refine lv_aload_n hx hb dX7_row_0 rfl (lv_at hl 0 rfl) ?_
  refine lv_aload_n hx hb dX7_row_1 rfl (lv_at hl 0 rfl) ?_
  refine zg_7_rows hx hb hts i7 hown hK hP (hts _ (List.mem_of_getElem? (i := 1) rfl)) dX7_row_2 ?_
  refine lv_bipush (v := (8 : Int32)) hx hb dX7_row_5 (by decide) ?_
  refine lv_icmp_ne (tgt := 14) hx hb dX7_row_7 (by decide) (fun c_7 => ?_) (fun c_7 => ?_)
  · have hm := hm.2 c_7
    refine lv_iconst (v := (0 : Int32)) hx hb dX7_row_14 (by decide) ?_
    exact b15 y1 y2 (0 : Int32) S _ _ _ hm hP hS (lv_sub hl [0, 1, 2] rfl)
  · have hm := hm.1 c_7
    refine lv_iconst (v := (1 : Int32)) hx hb dX7_row_10 (by decide) ?_
    refine lv_goto (tgt := 15) hx hb dX7_row_11 (by decide) ?_
    exact b15 y1 y2 (1 : Int32) S _ _ _ hm hP hS (lv_sub hl [0, 1, 2] rfl)

abbrev rm_X7_term : Room := { frames := 2, cells := 0, slots := 0, locals := 46 }
def X7_term_b64 (S : ZS) (Q : ZS → Prop) : Prop :=
  Q S
def X7_term_b41 (x1 : Int32) (x2 : Int32) (x3 : Int32) (t0 : Int32) (t1 : Int32) (S : ZS) (Q : ZS → Prop) : Prop :=
  X7_passes t1 t0 S (fun r_41 S_41 => (r_41 = 0 → X7_term_b64 S_41 Q) ∧ (¬ r_41 = 0 → vp_in (((10 : Int32) * x1) + x2) 80 ∧ ∀ S_58 : ZS, S_58 = zu S_41 67 ((((10 : Int32) * x1) + x2)).toNatClampNeg x3 → ∀ S_61 : ZS, S_61 = zu S_58 61 9 (-1 : Int32) → X7_term_b64 S_61 Q))
def X7_term_b22 (x1 : Int32) (x2 : Int32) (x3 : Int32) (t0 : Int32) (S : ZS) (Q : ZS → Prop) : Prop :=
  X7_within (Int32.toInt64 x3) (-100 : Int64) (100 : Int64) S (fun r_30 S_30 => (r_30 = 0 → X7_term_b41 x1 x2 x3 (1 : Int32) t0 S_30 Q) ∧ (¬ r_30 = 0 → X7_term_b41 x1 x2 x3 (0 : Int32) t0 S_30 Q))
def X7_term_b17 (x1 : Int32) (x2 : Int32) (x3 : Int32) (S : ZS) (Q : ZS → Prop) : Prop :=
  X7_term_b22 x1 x2 x3 (1 : Int32) S Q
def X7_term (y1 : Int32) (y2 : Int32) (y3 : Int32) (S : ZS) (Q : ZS → Prop) : Prop :=
  X7_isRow y1 S (fun r_3 S_3 => (r_3 = 0 → X7_term_b17 y1 y2 y3 S_3 Q) ∧ (¬ r_3 = 0 → X7_isColumn y2 S_3 (fun r_11 S_11 => (r_11 = 0 → X7_term_b17 y1 y2 y3 S_11 Q) ∧ (¬ r_11 = 0 → X7_term_b22 y1 y2 y3 (0 : Int32) S_11 Q))))
set_option maxHeartbeats 4000000 in
set_option maxRecDepth 100000 in
theorem c_X7_term (l : Launch) (D : va_G) (k : Nat → ClassId) (a : Nat → Nat) (hj : zDj a) (y1 : Int32) (y2 : Int32) (y3 : Int32) (S : ZS) (Q : ZS → Prop) (hm : X7_term y1 y2 y3 S Q) (sz : Nat) : Met l yX7_term wsX7_term rm_X7_term (zPc D k a [.ref (a 61), .int y1, .int y2, .int y3] S sz) (va_Qv Q (zB D k a) (zA a sz)) 0 0 (zA a sz) := by
  refine Met.ofW (cc := cX7_term) (maxL := 4) (ret := none) (by decide) rfl ?_
  intro p e s m args below meth c s₁ B hml hv
  obtain ⟨rfl, hsz, hP, hK⟩ := hv
  have hx := B.exec
  have hb := B.bytes
  have hr := B.returns
  have hts := atoms_spec (ws := wsX7_term) B.pre
  have hown : s.vm.findClass RX7 = some m.cls := findClass_of_methodNamed B.named
  have hlocks := B.notSynchronized
  subst hsz
  have hS : va_S (zA a s.heap.size) s.heap s.heap [] := va_S.rf
  have hF : CallFix p m c cX7_term 4 s _ wsX7_term RX7 := ⟨hx, hb, hml, hown, hts⟩
  have i7 : ∀ w ∈ wsX70, w ∈ wsX7_term := fun _ h => (List.mem_cons_of_mem _ (List.mem_append_right _ h))
  have hl := lv_entry ([.ref (a 61), .int y1, .int y2, .int y3]) (n := 4) (Nat.le_of_ble_eq_true rfl)
  rw [lg_entry_eq]
  generalize (lg_sl ([.ref (a 61), .int y1, .int y2, .int y3]) ++ List.replicate (4 - (lg_sl ([.ref (a 61), .int y1, .int y2, .int y3])).length) Slot.unset).toArray = ls at hl ⊢
  have hl : lv_has ls 4 [(0, .ref (a 61)), (1, .int y1), (2, .int y2), (3, .int y3)] := hl
  have b22 : ∀ (x1 : Int32) (x2 : Int32) (x3 : Int32) (t0 : Int32) (S : ZS) (H : Heap) (locs : List Loc) (ls : Array Slot), X7_term_b22 x1 x2 x3 t0 S Q → va_P D vwCl (zWS k a S) H → va_S (zA a s.heap.size) s.heap H locs → lv_has ls 4 [(0, .ref (a 61)), (1, .int x1), (2, .int x2), (3, .int x3)] → zWv p l e (headSpec wsX7_term rm_X7_term).room s m ([.ref (a 61), .int y1, .int y2, .int y3] : List Value) below meth c D k a Q H locs (F0 m 22 ls [.int t0, .ref (a 61)]) := by
    intro x1 x2 x3 t0 S H locs ls hm hP hS hl
    unfold X7_term_b22 at hm
    have b41 : ∀ (x1 : Int32) (x2 : Int32) (x3 : Int32) (t0 : Int32) (t1 : Int32) (S : ZS) (H : Heap) (locs : List Loc) (ls : Array Slot), X7_term_b41 x1 x2 x3 t0 t1 S Q → va_P D vwCl (zWS k a S) H → va_S (zA a s.heap.size) s.heap H locs → lv_has ls 4 [(0, .ref (a 61)), (1, .int x1), (2, .int x2), (3, .int x3)] → zWv p l e (headSpec wsX7_term rm_X7_term).room s m ([.ref (a 61), .int y1, .int y2, .int y3] : List Value) below meth c D k a Q H locs (F0 m 41 ls [.int t0, .int t1, .ref (a 61)]) := by
      intro x1 x2 x3 t0 t1 S H locs ls hm hP hS hl
      unfold X7_term_b41 at hm
      have b64 : ∀ (S : ZS) (H : Heap) (locs : List Loc) (ls : Array Slot), X7_term_b64 S Q → va_P D vwCl (zWS k a S) H → va_S (zA a s.heap.size) s.heap H locs → lv_has ls 4 [(0, .ref (a 61))] → zWv p l e (headSpec wsX7_term rm_X7_term).room s m ([.ref (a 61), .int y1, .int y2, .int y3] : List Value) below meth c D k a Q H locs (F0 m 64 ls []) := by
        intro S H locs ls hm hP hS hl
        unfold X7_term_b64 at hm
        exact z_retv hx hb hr hlocks hP hS hm dX7_term_64
      refine z_cVi (As := [.int t1, .int t0]) (rest := []) hF hK hP hS zO_61 rfl rfl (c_X7_passes l D k a hj t1 t0 S _ hm _) (cwV 2 hts gX7_term_X7_passes rfl rfl rfl (by decide +kernel) ⟨Nat.le_of_ble_eq_true rfl, Nat.le_of_ble_eq_true rfl⟩) rfl hl.1 rfl (Nat.le_of_ble_eq_true rfl) dX7_term_41 ⟨Nat.zero_le _, Nat.zero_le _⟩ (fun r_41 S_41 H locs hm hP hS => ?_)
      refine lv_if_eq (tgt := 64) hx hb dX7_term_44 (by decide) (fun c_44 => ?_) (fun c_44 => ?_)
      · have hm := hm.1 c_44
        exact b64  S_41 _ _ _ hm hP hS (lv_sub hl [0] rfl)
      · have hm := hm.2 c_44
        refine lv_aload_n hx hb dX7_term_47 rfl (lv_at hl 0 rfl) ?_
        refine zg_7_coefs hx hb hts i7 hown hK hP (hts _ (List.mem_of_getElem? (i := 3) rfl)) dX7_term_48 ?_
        refine lv_bipush (v := (10 : Int32)) hx hb dX7_term_51 (by decide) ?_
        refine lv_iload_n hx hb dX7_term_53 rfl (lv_at hl 1 rfl) ?_
        refine lv_imul hx hb dX7_term_54 ?_
        refine lv_iload_n hx hb dX7_term_55 rfl (lv_at hl 2 rfl) ?_
        refine lv_iadd hx hb dX7_term_56 ?_
        refine lv_iload_n hx hb dX7_term_57 rfl (lv_at hl 3 rfl) ?_
        obtain ⟨h_58, hm⟩ := hm
        refine z_iast hx hb hj hK hP hS zI_67 h_58 dX7_term_58 (fun H locs hP hS => ?_)
        obtain ⟨S_58, eS_58⟩ : ∃ z : ZS, z = zu S_41 67 ((((10 : Int32) * x1) + x2)).toNatClampNeg x3 := ⟨_, rfl⟩
        rw [← eS_58] at hP
        have hm := hm S_58 eS_58
        refine lv_aload_n hx hb dX7_term_59 rfl (lv_at hl 0 rfl) ?_
        refine lv_iconst (v := (-1 : Int32)) hx hb dX7_term_60 (by decide) ?_
        refine zp_7_solved hx hb hts i7 hown hj hK hP hS (hts _ (List.mem_of_getElem? (i := 4) rfl)) dX7_term_61 (fun H locs hP hS => ?_)
        obtain ⟨S_61, eS_61⟩ : ∃ z : ZS, z = zu S_58 61 9 (-1 : Int32) := ⟨_, rfl⟩
        rw [← eS_61] at hP
        have hm := hm S_61 eS_61
        exact b64  S_61 _ _ _ hm hP hS (lv_sub hl [0] rfl)
    refine lv_iload_n hx hb dX7_term_22 rfl (lv_at hl 3 rfl) ?_
    refine lv_i2l hx hb dX7_term_23 rfl ?_
    refine lv_ldc2 (v := (-100 : Int64)) hx hb hown (hts _ (List.mem_of_getElem? (i := 1) rfl)) dX7_term_24 ?_
    refine lv_ldc2 (v := (100 : Int64)) hx hb hown (hts _ (List.mem_of_getElem? (i := 2) rfl)) dX7_term_27 ?_
    refine z_cSi (As := [.long (Int32.toInt64 x3), .long (-100 : Int64), .long (100 : Int64)]) (rest := [.int t0, .ref (a 61)]) hF hK hP hS (c_X7_within l D k a hj (Int32.toInt64 x3) (-100 : Int64) (100 : Int64) S _ hm _) (va_cwS 3 hts gX7_term_X7_within rfl rfl rfl (by decide +kernel) ⟨Nat.le_of_ble_eq_true rfl, Nat.le_of_ble_eq_true rfl⟩) rfl hl.1 rfl (Nat.le_of_ble_eq_true rfl) dX7_term_30 ⟨Nat.zero_le _, Nat.zero_le _⟩ (fun r_30 S_30 H locs hm hP hS => ?_)
    refine lv_if_ne (tgt := 40) hx hb dX7_term_33 (by decide) (fun c_33 => ?_) (fun c_33 => ?_)
    · have hm := hm.2 c_33
      refine lv_iconst (v := (0 : Int32)) hx hb dX7_term_40 (by decide) ?_
      exact b41 x1 x2 x3 (0 : Int32) t0 S_30 _ _ _ hm hP hS (lv_sub hl [0, 1, 2, 3] rfl)
    · have hm := hm.1 c_33
      refine lv_iconst (v := (1 : Int32)) hx hb dX7_term_36 (by decide) ?_
      refine lv_goto (tgt := 41) hx hb dX7_term_37 (by decide) ?_
      exact b41 x1 x2 x3 (1 : Int32) t0 S_30 _ _ _ hm hP hS (lv_sub hl [0, 1, 2, 3] rfl)
  have b17 : ∀ (x1 : Int32) (x2 : Int32) (x3 : Int32) (S : ZS) (H : Heap) (locs : List Loc) (ls : Array Slot), X7_term_b17 x1 x2 x3 S Q → va_P D vwCl (zWS k a S) H → va_S (zA a s.heap.size) s.heap H locs → lv_has ls 4 [(0, .ref (a 61)), (1, .int x1), (2, .int x2), (3, .int x3)] → zWv p l e (headSpec wsX7_term rm_X7_term).room s m ([.ref (a 61), .int y1, .int y2, .int y3] : List Value) below meth c D k a Q H locs (F0 m 17 ls [.ref (a 61)]) := by
    intro x1 x2 x3 S H locs ls hm hP hS hl
    unfold X7_term_b17 at hm
    refine lv_iconst (v := (1 : Int32)) hx hb dX7_term_17 (by decide) ?_
    refine lv_goto (tgt := 22) hx hb dX7_term_18 (by decide) ?_
    exact b22 x1 x2 x3 (1 : Int32) S _ _ _ hm hP hS (lv_sub hl [0, 1, 2, 3] rfl)
  unfold X7_term at hm
  refine lv_aload_n hx hb dX7_term_0 rfl (lv_at hl 0 rfl) ?_
  refine lv_aload_n hx hb dX7_term_1 rfl (lv_at hl 0 rfl) ?_
  refine lv_iload_n hx hb dX7_term_2 rfl (lv_at hl 1 rfl) ?_
  refine z_cVi (As := [.int y1]) (rest := [.ref (a 61)]) hF hK hP hS zO_61 rfl rfl (c_X7_isRow l D k a hj y1 S _ hm _) (cwV 1 hts gX7_term_X7_isRow rfl rfl rfl (by decide +kernel) ⟨Nat.le_of_ble_eq_true rfl, Nat.le_of_ble_eq_true rfl⟩) rfl hl.1 rfl (Nat.le_of_ble_eq_true rfl) dX7_term_3 ⟨Nat.zero_le _, Nat.zero_le _⟩ (fun r_3 S_3 H locs hm hP hS => ?_)
  refine lv_if_eq (tgt := 17) hx hb dX7_term_6 (by decide) (fun c_6 => ?_) (fun c_6 => ?_)
  · have hm := hm.1 c_6
    exact b17 y1 y2 y3 S_3 _ _ _ hm hP hS (lv_sub hl [0, 1, 2, 3] rfl)
  · have hm := hm.2 c_6
    refine lv_aload_n hx hb dX7_term_9 rfl (lv_at hl 0 rfl) ?_
    refine lv_iload_n hx hb dX7_term_10 rfl (lv_at hl 2 rfl) ?_
    refine z_cVi (As := [.int y2]) (rest := [.ref (a 61)]) hF hK hP hS zO_61 rfl rfl (c_X7_isColumn l D k a hj y2 S_3 _ hm _) (cwV 1 hts gX7_term_X7_isColumn rfl rfl rfl (by decide +kernel) ⟨Nat.le_of_ble_eq_true rfl, Nat.le_of_ble_eq_true rfl⟩) rfl hl.1 rfl (Nat.le_of_ble_eq_true rfl) dX7_term_11 ⟨Nat.zero_le _, Nat.zero_le _⟩ (fun r_11 S_11 H locs hm hP hS => ?_)
    refine lv_if_ne (tgt := 21) hx hb dX7_term_14 (by decide) (fun c_14 => ?_) (fun c_14 => ?_)
    · have hm := hm.2 c_14
      refine lv_iconst (v := (0 : Int32)) hx hb dX7_term_21 (by decide) ?_
      exact b22 y1 y2 y3 (0 : Int32) S_11 _ _ _ hm hP hS (lv_sub hl [0, 1, 2, 3] rfl)
    · have hm := hm.1 c_14
      exact b17 y1 y2 y3 S_11 _ _ _ hm hP hS (lv_sub hl [0, 1, 2, 3] rfl)

abbrev rm_X7_bounds : Room := { frames := 2, cells := 0, slots := 0, locals := 46 }
def X7_bounds_b52 (S : ZS) (Q : ZS → Prop) : Prop :=
  Q S
def X7_bounds_b27 (x1 : Int32) (x2 : Int32) (x3 : Int32) (t0 : Int32) (t1 : Int32) (S : ZS) (Q : ZS → Prop) : Prop :=
  X7_passes t1 t0 S (fun r_27 S_27 => (r_27 = 0 → X7_bounds_b52 S_27 Q) ∧ (¬ r_27 = 0 → vp_in x1 10 ∧ ∀ S_39 : ZS, S_39 = zu S_27 62 (x1).toNatClampNeg x2 → vp_in x1 10 ∧ ∀ S_46 : ZS, S_46 = zu S_39 63 (x1).toNatClampNeg x3 → ∀ S_49 : ZS, S_49 = zu S_46 61 9 (-1 : Int32) → X7_bounds_b52 S_49 Q))
def X7_bounds_b14 (x1 : Int32) (x2 : Int32) (x3 : Int32) (t0 : Int32) (S : ZS) (Q : ZS → Prop) : Prop :=
  X7_areBounds x2 x3 S (fun r_16 S_16 => (r_16 = 0 → X7_bounds_b27 x1 x2 x3 (1 : Int32) t0 S_16 Q) ∧ (¬ r_16 = 0 → X7_bounds_b27 x1 x2 x3 (0 : Int32) t0 S_16 Q))
def X7_bounds (y1 : Int32) (y2 : Int32) (y3 : Int32) (S : ZS) (Q : ZS → Prop) : Prop :=
  X7_isColumn y1 S (fun r_3 S_3 => (r_3 = 0 → X7_bounds_b14 y1 y2 y3 (1 : Int32) S_3 Q) ∧ (¬ r_3 = 0 → X7_bounds_b14 y1 y2 y3 (0 : Int32) S_3 Q))
set_option maxHeartbeats 4000000 in
set_option maxRecDepth 100000 in
theorem c_X7_bounds (l : Launch) (D : va_G) (k : Nat → ClassId) (a : Nat → Nat) (hj : zDj a) (y1 : Int32) (y2 : Int32) (y3 : Int32) (S : ZS) (Q : ZS → Prop) (hm : X7_bounds y1 y2 y3 S Q) (sz : Nat) : Met l yX7_bounds wsX7_bounds rm_X7_bounds (zPc D k a [.ref (a 61), .int y1, .int y2, .int y3] S sz) (va_Qv Q (zB D k a) (zA a sz)) 0 0 (zA a sz) := by
  refine Met.ofW (cc := cX7_bounds) (maxL := 4) (ret := none) (by decide) rfl ?_
  intro p e s m args below meth c s₁ B hml hv
  obtain ⟨rfl, hsz, hP, hK⟩ := hv
  have hx := B.exec
  have hb := B.bytes
  have hr := B.returns
  have hts := atoms_spec (ws := wsX7_bounds) B.pre
  have hown : s.vm.findClass RX7 = some m.cls := findClass_of_methodNamed B.named
  have hlocks := B.notSynchronized
  subst hsz
  have hS : va_S (zA a s.heap.size) s.heap s.heap [] := va_S.rf
  have hF : CallFix p m c cX7_bounds 4 s _ wsX7_bounds RX7 := ⟨hx, hb, hml, hown, hts⟩
  have i7 : ∀ w ∈ wsX70, w ∈ wsX7_bounds := fun _ h => (List.mem_cons_of_mem _ (List.mem_append_right _ h))
  have hl := lv_entry ([.ref (a 61), .int y1, .int y2, .int y3]) (n := 4) (Nat.le_of_ble_eq_true rfl)
  rw [lg_entry_eq]
  generalize (lg_sl ([.ref (a 61), .int y1, .int y2, .int y3]) ++ List.replicate (4 - (lg_sl ([.ref (a 61), .int y1, .int y2, .int y3])).length) Slot.unset).toArray = ls at hl ⊢
  have hl : lv_has ls 4 [(0, .ref (a 61)), (1, .int y1), (2, .int y2), (3, .int y3)] := hl
  have b14 : ∀ (x1 : Int32) (x2 : Int32) (x3 : Int32) (t0 : Int32) (S : ZS) (H : Heap) (locs : List Loc) (ls : Array Slot), X7_bounds_b14 x1 x2 x3 t0 S Q → va_P D vwCl (zWS k a S) H → va_S (zA a s.heap.size) s.heap H locs → lv_has ls 4 [(0, .ref (a 61)), (1, .int x1), (2, .int x2), (3, .int x3)] → zWv p l e (headSpec wsX7_bounds rm_X7_bounds).room s m ([.ref (a 61), .int y1, .int y2, .int y3] : List Value) below meth c D k a Q H locs (F0 m 14 ls [.int t0, .ref (a 61)]) := by
    intro x1 x2 x3 t0 S H locs ls hm hP hS hl
    unfold X7_bounds_b14 at hm
    have b27 : ∀ (x1 : Int32) (x2 : Int32) (x3 : Int32) (t0 : Int32) (t1 : Int32) (S : ZS) (H : Heap) (locs : List Loc) (ls : Array Slot), X7_bounds_b27 x1 x2 x3 t0 t1 S Q → va_P D vwCl (zWS k a S) H → va_S (zA a s.heap.size) s.heap H locs → lv_has ls 4 [(0, .ref (a 61)), (1, .int x1), (2, .int x2), (3, .int x3)] → zWv p l e (headSpec wsX7_bounds rm_X7_bounds).room s m ([.ref (a 61), .int y1, .int y2, .int y3] : List Value) below meth c D k a Q H locs (F0 m 27 ls [.int t0, .int t1, .ref (a 61)]) := by
      intro x1 x2 x3 t0 t1 S H locs ls hm hP hS hl
      unfold X7_bounds_b27 at hm
      have b52 : ∀ (S : ZS) (H : Heap) (locs : List Loc) (ls : Array Slot), X7_bounds_b52 S Q → va_P D vwCl (zWS k a S) H → va_S (zA a s.heap.size) s.heap H locs → lv_has ls 4 [(0, .ref (a 61))] → zWv p l e (headSpec wsX7_bounds rm_X7_bounds).room s m ([.ref (a 61), .int y1, .int y2, .int y3] : List Value) below meth c D k a Q H locs (F0 m 52 ls []) := by
        intro S H locs ls hm hP hS hl
        unfold X7_bounds_b52 at hm
        exact z_retv hx hb hr hlocks hP hS hm dX7_bounds_52
      refine z_cVi (As := [.int t1, .int t0]) (rest := []) hF hK hP hS zO_61 rfl rfl (c_X7_passes l D k a hj t1 t0 S _ hm _) (cwV 2 hts gX7_bounds_X7_passes rfl rfl rfl (by decide +kernel) ⟨Nat.le_of_ble_eq_true rfl, Nat.le_of_ble_eq_true rfl⟩) rfl hl.1 rfl (Nat.le_of_ble_eq_true rfl) dX7_bounds_27 ⟨Nat.zero_le _, Nat.zero_le _⟩ (fun r_27 S_27 H locs hm hP hS => ?_)
      refine lv_if_eq (tgt := 52) hx hb dX7_bounds_30 (by decide) (fun c_30 => ?_) (fun c_30 => ?_)
      · have hm := hm.1 c_30
        exact b52  S_27 _ _ _ hm hP hS (lv_sub hl [0] rfl)
      · have hm := hm.2 c_30
        refine lv_aload_n hx hb dX7_bounds_33 rfl (lv_at hl 0 rfl) ?_
        refine zg_7_lows hx hb hts i7 hown hK hP (hts _ (List.mem_of_getElem? (i := 1) rfl)) dX7_bounds_34 ?_
        refine lv_iload_n hx hb dX7_bounds_37 rfl (lv_at hl 1 rfl) ?_
        refine lv_iload_n hx hb dX7_bounds_38 rfl (lv_at hl 2 rfl) ?_
        obtain ⟨h_39, hm⟩ := hm
        refine z_iast hx hb hj hK hP hS zI_62 h_39 dX7_bounds_39 (fun H locs hP hS => ?_)
        obtain ⟨S_39, eS_39⟩ : ∃ z : ZS, z = zu S_27 62 (x1).toNatClampNeg x2 := ⟨_, rfl⟩
        rw [← eS_39] at hP
        have hm := hm S_39 eS_39
        refine lv_aload_n hx hb dX7_bounds_40 rfl (lv_at hl 0 rfl) ?_
        refine zg_7_highs hx hb hts i7 hown hK hP (hts _ (List.mem_of_getElem? (i := 2) rfl)) dX7_bounds_41 ?_
        refine lv_iload_n hx hb dX7_bounds_44 rfl (lv_at hl 1 rfl) ?_
        refine lv_iload_n hx hb dX7_bounds_45 rfl (lv_at hl 3 rfl) ?_
        obtain ⟨h_46, hm⟩ := hm
        refine z_iast hx hb hj hK hP hS zI_63 h_46 dX7_bounds_46 (fun H locs hP hS => ?_)
        obtain ⟨S_46, eS_46⟩ : ∃ z : ZS, z = zu S_39 63 (x1).toNatClampNeg x3 := ⟨_, rfl⟩
        rw [← eS_46] at hP
        have hm := hm S_46 eS_46
        refine lv_aload_n hx hb dX7_bounds_47 rfl (lv_at hl 0 rfl) ?_
        refine lv_iconst (v := (-1 : Int32)) hx hb dX7_bounds_48 (by decide) ?_
        refine zp_7_solved hx hb hts i7 hown hj hK hP hS (hts _ (List.mem_of_getElem? (i := 3) rfl)) dX7_bounds_49 (fun H locs hP hS => ?_)
        obtain ⟨S_49, eS_49⟩ : ∃ z : ZS, z = zu S_46 61 9 (-1 : Int32) := ⟨_, rfl⟩
        rw [← eS_49] at hP
        have hm := hm S_49 eS_49
        exact b52  S_49 _ _ _ hm hP hS (lv_sub hl [0] rfl)
    refine lv_iload_n hx hb dX7_bounds_14 rfl (lv_at hl 2 rfl) ?_
    refine lv_iload_n hx hb dX7_bounds_15 rfl (lv_at hl 3 rfl) ?_
    refine z_cSi (As := [.int x2, .int x3]) (rest := [.int t0, .ref (a 61)]) hF hK hP hS (c_X7_areBounds l D k a hj x2 x3 S _ hm _) (va_cwS 2 hts gX7_bounds_X7_areBounds rfl rfl rfl (by decide +kernel) ⟨Nat.le_of_ble_eq_true rfl, Nat.le_of_ble_eq_true rfl⟩) rfl hl.1 rfl (Nat.le_of_ble_eq_true rfl) dX7_bounds_16 ⟨Nat.zero_le _, Nat.zero_le _⟩ (fun r_16 S_16 H locs hm hP hS => ?_)
    refine lv_if_ne (tgt := 26) hx hb dX7_bounds_19 (by decide) (fun c_19 => ?_) (fun c_19 => ?_)
    · have hm := hm.2 c_19
      refine lv_iconst (v := (0 : Int32)) hx hb dX7_bounds_26 (by decide) ?_
      exact b27 x1 x2 x3 (0 : Int32) t0 S_16 _ _ _ hm hP hS (lv_sub hl [0, 1, 2, 3] rfl)
    · have hm := hm.1 c_19
      refine lv_iconst (v := (1 : Int32)) hx hb dX7_bounds_22 (by decide) ?_
      refine lv_goto (tgt := 27) hx hb dX7_bounds_23 (by decide) ?_
      exact b27 x1 x2 x3 (1 : Int32) t0 S_16 _ _ _ hm hP hS (lv_sub hl [0, 1, 2, 3] rfl)
  unfold X7_bounds at hm
  refine lv_aload_n hx hb dX7_bounds_0 rfl (lv_at hl 0 rfl) ?_
  refine lv_aload_n hx hb dX7_bounds_1 rfl (lv_at hl 0 rfl) ?_
  refine lv_iload_n hx hb dX7_bounds_2 rfl (lv_at hl 1 rfl) ?_
  refine z_cVi (As := [.int y1]) (rest := [.ref (a 61)]) hF hK hP hS zO_61 rfl rfl (c_X7_isColumn l D k a hj y1 S _ hm _) (cwV 1 hts gX7_bounds_X7_isColumn rfl rfl rfl (by decide +kernel) ⟨Nat.le_of_ble_eq_true rfl, Nat.le_of_ble_eq_true rfl⟩) rfl hl.1 rfl (Nat.le_of_ble_eq_true rfl) dX7_bounds_3 ⟨Nat.zero_le _, Nat.zero_le _⟩ (fun r_3 S_3 H locs hm hP hS => ?_)
  refine lv_if_ne (tgt := 13) hx hb dX7_bounds_6 (by decide) (fun c_6 => ?_) (fun c_6 => ?_)
  · have hm := hm.2 c_6
    refine lv_iconst (v := (0 : Int32)) hx hb dX7_bounds_13 (by decide) ?_
    exact b14 y1 y2 y3 (0 : Int32) S_3 _ _ _ hm hP hS (lv_sub hl [0, 1, 2, 3] rfl)
  · have hm := hm.1 c_6
    refine lv_iconst (v := (1 : Int32)) hx hb dX7_bounds_9 (by decide) ?_
    refine lv_goto (tgt := 14) hx hb dX7_bounds_10 (by decide) ?_
    exact b14 y1 y2 y3 (1 : Int32) S_3 _ _ _ hm hP hS (lv_sub hl [0, 1, 2, 3] rfl)

