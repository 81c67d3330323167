abbrev rm_L_column : Room := { frames := 7, cells := 1, slots := 6, locals := 113 }
def L_column (y1 : Int32) (y2 : Int32) (y3 : Int32) (S : ZS) (Q : Int32 → ZS → Prop) : Prop :=
  X6_column y1 y2 y3 S (fun r S1 => ∀ S2 : ZS, S2 = zw S1 82 0 (Int32.toInt64 r) → Q (0 : Int32) S2) (fun E S1 => (E = "java/lang/IllegalStateException" ∧ Q (1 : Int32) S1) ∨ (E = "java/lang/IllegalArgumentException" ∧ Q (2 : Int32) S1))
set_option maxHeartbeats 4000000 in
set_option maxRecDepth 100000 in
theorem c_L_column (l : Launch) (hlt : l.stackTraces = false) (D : va_G) (k : Nat → ClassId) (a : Nat → Nat) (hj : zDj a) (y1 : Int32) (y2 : Int32) (y3 : Int32) (S : ZS) (Q : Int32 → ZS → Prop) (hm : L_column y1 y2 y3 S Q) (sz : Nat) : Met l yL_column wsL_column rm_L_column (zPcX D k a [.ref (a 0), .int y1, .int y2, .int y3, .ref (a 82)] S sz) (va_Qi Q (zB D k a) (zA a sz)) 1 6 (zA a sz) := by
  refine va_MetW (cc := cL_column) (maxL := 6) (ret := some .int) (hh := [(0, 12, 15, 13), (0, 12, 19, 15)]) (by decide) rfl ?_
  intro p e s m args below meth c s₁ B hml hv
  obtain ⟨rfl, hsz, hP, hK, hX⟩ := hv
  have hx := B.exec
  have hb := B.bytes
  have hr := B.returns
  have hts := atoms_spec (ws := wsL_column) B.pre
  have hown : s.vm.findClass RL = some m.cls := findClass_of_methodNamed B.named
  have hlocks := B.notSynchronized
  subst hsz
  have hS : va_S (zA a s.heap.size) s.heap s.heap [] := va_S.rf
  have hF : CallFix p m c cL_column 6 s _ wsL_column RL := ⟨hx, hb, hml, hown, hts⟩
  have hxt : c.exceptionTable.toList = [{ startPc := 0, endPc := 12, handlerPc := 15, catchType := 13 }, { startPc := 0, endPc := 12, handlerPc := 19, catchType := 15 }] := vx_table (x := yL_law) B (hts _ (List.mem_of_getElem? (i := 0) rfl))
  have hl := lv_entry ([.ref (a 0), .int y1, .int y2, .int y3, .ref (a 82)]) (n := 6) (Nat.le_of_ble_eq_true rfl)
  rw [lg_entry_eq]
  generalize (lg_sl ([.ref (a 0), .int y1, .int y2, .int y3, .ref (a 82)]) ++ List.replicate (6 - (lg_sl ([.ref (a 0), .int y1, .int y2, .int y3, .ref (a 82)])).length) Slot.unset).toArray = ls at hl ⊢
  have hl : lv_has ls 6 [(0, .ref (a 0)), (1, .int y1), (2, .int y2), (3, .int y3), (4, .ref (a 82))] := hl
  unfold L_column at hm
  refine lv_aload hx hb dL_column_0 (lv_at hl 4 rfl) ?_
  refine lv_iconst (v := (0 : Int32)) hx hb dL_column_2 (by decide) ?_
  refine lv_aload_n hx hb dL_column_3 rfl (lv_at hl 0 rfl) ?_
  refine lv_iload_n hx hb dL_column_4 rfl (lv_at hl 1 rfl) ?_
  refine lv_iload_n hx hb dL_column_5 rfl (lv_at hl 2 rfl) ?_
  refine lv_iload_n hx hb dL_column_6 rfl (lv_at hl 3 rfl) ?_
  refine z_kVi (As := [.int y1, .int y2, .int y3]) (rest := [.int (0 : Int32), .ref (a 82)]) hF hK hX hP hS zO_0 rfl rfl (c_X6_column l hlt D k a hj y1 y2 y3 S _ _ hm _) (cwV 3 hts gL_column_X6_column rfl rfl rfl (by decide +kernel) ⟨(Nat.le_of_ble_eq_true rfl), (Nat.le_of_ble_eq_true rfl)⟩) rfl hl.1 rfl (Nat.le_of_ble_eq_true rfl) dL_column_7 ⟨(Nat.le_of_ble_eq_true rfl), (Nat.le_of_ble_eq_true rfl)⟩ (fun E S1 H locs q9 ce hm hP hS hce hcv hcl => ?_) (fun r S1 H locs hm hP hS => ?_)
  · rcases hm with ⟨rfl, hm⟩ | ⟨rfl, hm⟩
    · refine vx_catch hown [] { startPc := 0, endPc := 12, handlerPc := 15, catchType := 13 } [{ startPc := 0, endPc := 12, handlerPc := 19, catchType := 15 }] hxt (fun z hz => by cases hz) (by decide) (by decide) (hts _ (List.mem_of_getElem? (i := 1) rfl)) (va_Nw.use rfl (hX.2.2.1 (.castable "java/lang/IllegalStateException" "java/lang/IllegalStateException") (by decide))) hce hcv hcl ?_
      refine lv_astore (lv' := [(5, .ref q9), (0, .ref (a 0)), (1, .int y1), (2, .int y2), (3, .int y3), (4, .ref (a 82))]) hx hb dL_column_15 hl (by decide) rfl (fun ls hl => ?_)
      refine lv_iconst (v := (1 : Int32)) hx hb dL_column_17 (by decide) ?_
      exact z_retiW hx hb hr hlocks hP hS (Nat.le_of_ble_eq_true rfl) (Nat.le_of_ble_eq_true rfl) hm dL_column_18
    · refine vx_catch hown [{ startPc := 0, endPc := 12, handlerPc := 15, catchType := 13 }] { startPc := 0, endPc := 12, handlerPc := 19, catchType := 15 } [] hxt (fun z hz => by rw [List.mem_singleton.mp hz]; exact Or.inr ⟨by decide, "java/lang/IllegalStateException", hts _ (List.mem_of_getElem? (i := 1) rfl), hX.2.2.2.2 ("java/lang/IllegalArgumentException", "java/lang/IllegalStateException") (by decide)⟩) (by decide) (by decide) (hts _ (List.mem_of_getElem? (i := 2) rfl)) (va_Nw.use rfl (hX.2.2.1 (.castable "java/lang/IllegalArgumentException" "java/lang/IllegalArgumentException") (by decide))) hce hcv hcl ?_
      refine lv_astore (lv' := [(5, .ref q9), (0, .ref (a 0)), (1, .int y1), (2, .int y2), (3, .int y3), (4, .ref (a 82))]) hx hb dL_column_19 hl (by decide) rfl (fun ls hl => ?_)
      refine lv_iconst (v := (2 : Int32)) hx hb dL_column_21 (by decide) ?_
      exact z_retiW hx hb hr hlocks hP hS (Nat.le_of_ble_eq_true rfl) (Nat.le_of_ble_eq_true rfl) hm dL_column_22
  · refine lv_i2l hx hb dL_column_10 rfl ?_
    refine z_last hx hb hj hK hP hS zJ_82 (by unfold vp_in; decide) dL_column_11 (fun H locs hP hS => ?_)
    have hm := hm _ rfl
    refine lv_goto (tgt := 23) hx hb dL_column_12 (by decide) ?_
    refine lv_iconst (v := (0 : Int32)) hx hb dL_column_23 (by decide) ?_
    exact z_retiW hx hb hr hlocks hP hS (Nat.le_of_ble_eq_true rfl) (Nat.le_of_ble_eq_true rfl) hm dL_column_24
abbrev rm_L_row : Room := { frames := 7, cells := 1, slots := 6, locals := 113 }
def L_row (y1 : Int32) (y2 : Int32) (S : ZS) (Q : Int32 → ZS → Prop) : Prop :=
  X6_row y1 y2 S (fun r S1 => ∀ S2 : ZS, S2 = zw S1 82 0 (Int32.toInt64 r) → Q (0 : Int32) S2) (fun E S1 => (E = "java/lang/IllegalStateException" ∧ Q (1 : Int32) S1) ∨ (E = "java/lang/IllegalArgumentException" ∧ Q (2 : Int32) S1))
set_option maxHeartbeats 4000000 in
set_option maxRecDepth 100000 in
theorem c_L_row (l : Launch) (hlt : l.stackTraces = false) (D : va_G) (k : Nat → ClassId) (a : Nat → Nat) (hj : zDj a) (y1 : Int32) (y2 : Int32) (S : ZS) (Q : Int32 → ZS → Prop) (hm : L_row y1 y2 S Q) (sz : Nat) : Met l yL_row wsL_row rm_L_row (zPcX D k a [.ref (a 0), .int y1, .int y2, .ref (a 82)] S sz) (va_Qi Q (zB D k a) (zA a sz)) 1 6 (zA a sz) := by
  refine va_MetW (cc := cL_row) (maxL := 5) (ret := some .int) (hh := [(0, 10, 13, 13), (0, 10, 17, 15)]) (by decide) rfl ?_
  intro p e s m args below meth c s₁ B hml hv
  obtain ⟨rfl, hsz, hP, hK, hX⟩ := hv
  have hx := B.exec
  have hb := B.bytes
  have hr := B.returns
  have hts := atoms_spec (ws := wsL_row) B.pre
  have hown : s.vm.findClass RL = some m.cls := findClass_of_methodNamed B.named
  have hlocks := B.notSynchronized
  subst hsz
  have hS : va_S (zA a s.heap.size) s.heap s.heap [] := va_S.rf
  have hF : CallFix p m c cL_row 5 s _ wsL_row RL := ⟨hx, hb, hml, hown, hts⟩
  have hxt : c.exceptionTable.toList = [{ startPc := 0, endPc := 10, handlerPc := 13, catchType := 13 }, { startPc := 0, endPc := 10, handlerPc := 17, catchType := 15 }] := vx_table (x := yL_law) B (hts _ (List.mem_of_getElem? (i := 0) rfl))
  have hl := lv_entry ([.ref (a 0), .int y1, .int y2, .ref (a 82)]) (n := 5) (Nat.le_of_ble_eq_true rfl)
  rw [lg_entry_eq]
  generalize (lg_sl ([.ref (a 0), .int y1, .int y2, .ref (a 82)]) ++ List.replicate (5 - (lg_sl ([.ref (a 0), .int y1, .int y2, .ref (a 82)])).length) Slot.unset).toArray = ls at hl ⊢
  have hl : lv_has ls 5 [(0, .ref (a 0)), (1, .int y1), (2, .int y2), (3, .ref (a 82))] := hl
  unfold L_row at hm
  refine lv_aload_n hx hb dL_row_0 rfl (lv_at hl 3 rfl) ?_
  refine lv_iconst (v := (0 : Int32)) hx hb dL_row_1 (by decide) ?_
  refine lv_aload_n hx hb dL_row_2 rfl (lv_at hl 0 rfl) ?_
  refine lv_iload_n hx hb dL_row_3 rfl (lv_at hl 1 rfl) ?_
  refine lv_iload_n hx hb dL_row_4 rfl (lv_at hl 2 rfl) ?_
  refine z_kVi (As := [.int y1, .int y2]) (rest := [.int (0 : Int32), .ref (a 82)]) hF hK hX hP hS zO_0 rfl rfl (c_X6_row l hlt D k a hj y1 y2 S _ _ hm _) (cwV 2 hts gL_row_X6_row rfl rfl rfl (by decide +kernel) ⟨(Nat.le_of_ble_eq_true rfl), (Nat.le_of_ble_eq_true rfl)⟩) rfl hl.1 rfl (Nat.le_of_ble_eq_true rfl) dL_row_5 ⟨(Nat.le_of_ble_eq_true rfl), (Nat.le_of_ble_eq_true rfl)⟩ (fun E S1 H locs q9 ce hm hP hS hce hcv hcl => ?_) (fun r S1 H locs hm hP hS => ?_)
  · rcases hm with ⟨rfl, hm⟩ | ⟨rfl, hm⟩
    · refine vx_catch hown [] { startPc := 0, endPc := 10, handlerPc := 13, catchType := 13 } [{ startPc := 0, endPc := 10, handlerPc := 17, catchType := 15 }] hxt (fun z hz => by cases hz) (by decide) (by decide) (hts _ (List.mem_of_getElem? (i := 1) rfl)) (va_Nw.use rfl (hX.2.2.1 (.castable "java/lang/IllegalStateException" "java/lang/IllegalStateException") (by decide))) hce hcv hcl ?_
      refine lv_astore (lv' := [(4, .ref q9), (0, .ref (a 0)), (1, .int y1), (2, .int y2), (3, .ref (a 82))]) hx hb dL_row_13 hl (by decide) rfl (fun ls hl => ?_)
      refine lv_iconst (v := (1 : Int32)) hx hb dL_row_15 (by decide) ?_
      exact z_retiW hx hb hr hlocks hP hS (Nat.le_of_ble_eq_true rfl) (Nat.le_of_ble_eq_true rfl) hm dL_row_16
    · refine vx_catch hown [{ startPc := 0, endPc := 10, handlerPc := 13, catchType := 13 }] { startPc := 0, endPc := 10, handlerPc := 17, catchType := 15 } [] hxt (fun z hz => by rw [List.mem_singleton.mp hz]; exact Or.inr ⟨by decide, "java/lang/IllegalStateException", hts _ (List.mem_of_getElem? (i := 1) rfl), hX.2.2.2.2 ("java/lang/IllegalArgumentException", "java/lang/IllegalStateException") (by decide)⟩) (by decide) (by decide) (hts _ (List.mem_of_getElem? (i := 2) rfl)) (va_Nw.use rfl (hX.2.2.1 (.castable "java/lang/IllegalArgumentException" "java/lang/IllegalArgumentException") (by decide))) hce hcv hcl ?_
      refine lv_astore (lv' := [(4, .ref q9), (0, .ref (a 0)), (1, .int y1), (2, .int y2), (3, .ref (a 82))]) hx hb dL_row_17 hl (by decide) rfl (fun ls hl => ?_)
      refine lv_iconst (v := (2 : Int32)) hx hb dL_row_19 (by decide) ?_
      exact z_retiW hx hb hr hlocks hP hS (Nat.le_of_ble_eq_true rfl) (Nat.le_of_ble_eq_true rfl) hm dL_row_20
  · refine lv_i2l hx hb dL_row_8 rfl ?_
    refine z_last hx hb hj hK hP hS zJ_82 (by unfold vp_in; decide) dL_row_9 (fun H locs hP hS => ?_)
    have hm := hm _ rfl
    refine lv_goto (tgt := 21) hx hb dL_row_10 (by decide) ?_
    refine lv_iconst (v := (0 : Int32)) hx hb dL_row_21 (by decide) ?_
    exact z_retiW hx hb hr hlocks hP hS (Nat.le_of_ble_eq_true rfl) (Nat.le_of_ble_eq_true rfl) hm dL_row_22
abbrev rm_L_term : Room := { frames := 8, cells := 3, slots := 18, locals := 134 }
def L_term (y1 : Int32) (y2 : Int32) (y3 : Int32) (S : ZS) (Q : Int32 → ZS → Prop) : Prop :=
  X6_term y1 y2 y3 S (fun S1 => Q (0 : Int32) S1) (fun E S1 => (E = "java/lang/IndexOutOfBoundsException" ∧ Q (1 : Int32) S1) ∨ (E = "java/lang/IllegalArgumentException" ∧ Q (2 : Int32) S1))
set_option maxHeartbeats 4000000 in
set_option maxRecDepth 100000 in
theorem c_L_term (l : Launch) (hlt : l.stackTraces = false) (D : va_G) (k : Nat → ClassId) (a : Nat → Nat) (hj : zDj a) (y1 : Int32) (y2 : Int32) (y3 : Int32) (S : ZS) (Q : Int32 → ZS → Prop) (hm : L_term y1 y2 y3 S Q) (sz : Nat) : Met l yL_term wsL_term rm_L_term (zPcX D k a [.ref (a 0), .int y1, .int y2, .int y3] S sz) (va_Qi Q (zB D k a) (zA a sz)) 3 18 (zA a sz) := by
  refine va_MetW (cc := cL_term) (maxL := 5) (ret := some .int) (hh := [(0, 7, 10, 25), (0, 7, 14, 15)]) (by decide) rfl ?_
  intro p e s m args below meth c s₁ B hml hv
  obtain ⟨rfl, hsz, hP, hK, hX⟩ := hv
  have hx := B.exec
  have hb := B.bytes
  have hr := B.returns
  have hts := atoms_spec (ws := wsL_term) B.pre
  have hown : s.vm.findClass RL = some m.cls := findClass_of_methodNamed B.named
  have hlocks := B.notSynchronized
  subst hsz
  have hS : va_S (zA a s.heap.size) s.heap s.heap [] := va_S.rf
  have hF : CallFix p m c cL_term 5 s _ wsL_term RL := ⟨hx, hb, hml, hown, hts⟩
  have hxt : c.exceptionTable.toList = [{ startPc := 0, endPc := 7, handlerPc := 10, catchType := 25 }, { startPc := 0, endPc := 7, handlerPc := 14, catchType := 15 }] := vx_table (x := yL_law) B (hts _ (List.mem_of_getElem? (i := 0) rfl))
  have hl := lv_entry ([.ref (a 0), .int y1, .int y2, .int y3]) (n := 5) (Nat.le_of_ble_eq_true rfl)
  rw [lg_entry_eq]
  generalize (lg_sl ([.ref (a 0), .int y1, .int y2, .int y3]) ++ List.replicate (5 - (lg_sl ([.ref (a 0), .int y1, .int y2, .int y3])).length) Slot.unset).toArray = ls at hl ⊢
  have hl : lv_has ls 5 [(0, .ref (a 0)), (1, .int y1), (2, .int y2), (3, .int y3)] := hl
  unfold L_term at hm
  refine lv_aload_n hx hb dL_term_0 rfl (lv_at hl 0 rfl) ?_
  refine lv_iload_n hx hb dL_term_1 rfl (lv_at hl 1 rfl) ?_
  refine lv_iload_n hx hb dL_term_2 rfl (lv_at hl 2 rfl) ?_
  refine lv_iload_n hx hb dL_term_3 rfl (lv_at hl 3 rfl) ?_
  refine z_kVv (As := [.int y1, .int y2, .int y3]) (rest := []) hF hK hX hP hS zO_0 rfl rfl (c_X6_term l hlt D k a hj y1 y2 y3 S _ _ hm _) (cwV 3 hts gL_term_X6_term rfl rfl rfl (by decide +kernel) ⟨(Nat.le_of_ble_eq_true rfl), (Nat.le_of_ble_eq_true rfl)⟩) rfl hl.1 rfl (Nat.le_of_ble_eq_true rfl) dL_term_4 ⟨(Nat.le_of_ble_eq_true rfl), (Nat.le_of_ble_eq_true rfl)⟩ (fun E S1 H locs q9 ce hm hP hS hce hcv hcl => ?_) (fun S1 H locs hm hP hS => ?_)
  · rcases hm with ⟨rfl, hm⟩ | ⟨rfl, hm⟩
    · refine vx_catch hown [] { startPc := 0, endPc := 7, handlerPc := 10, catchType := 25 } [{ startPc := 0, endPc := 7, handlerPc := 14, catchType := 15 }] hxt (fun z hz => by cases hz) (by decide) (by decide) (hts _ (List.mem_of_getElem? (i := 1) rfl)) (va_Nw.use rfl (hX.2.2.1 (.castable "java/lang/IndexOutOfBoundsException" "java/lang/IndexOutOfBoundsException") (by decide))) hce hcv hcl ?_
      refine lv_astore (lv' := [(4, .ref q9), (0, .ref (a 0)), (1, .int y1), (2, .int y2), (3, .int y3)]) hx hb dL_term_10 hl (by decide) rfl (fun ls hl => ?_)
      refine lv_iconst (v := (1 : Int32)) hx hb dL_term_12 (by decide) ?_
      exact z_retiW hx hb hr hlocks hP hS (Nat.le_of_ble_eq_true rfl) (Nat.le_of_ble_eq_true rfl) hm dL_term_13
    · refine vx_catch hown [{ startPc := 0, endPc := 7, handlerPc := 10, catchType := 25 }] { startPc := 0, endPc := 7, handlerPc := 14, catchType := 15 } [] hxt (fun z hz => by rw [List.mem_singleton.mp hz]; exact Or.inr ⟨by decide, "java/lang/IndexOutOfBoundsException", hts _ (List.mem_of_getElem? (i := 1) rfl), hX.2.2.2.2 ("java/lang/IllegalArgumentException", "java/lang/IndexOutOfBoundsException") (by decide)⟩) (by decide) (by decide) (hts _ (List.mem_of_getElem? (i := 2) rfl)) (va_Nw.use rfl (hX.2.2.1 (.castable "java/lang/IllegalArgumentException" "java/lang/IllegalArgumentException") (by decide))) hce hcv hcl ?_
      refine lv_astore (lv' := [(4, .ref q9), (0, .ref (a 0)), (1, .int y1), (2, .int y2), (3, .int y3)]) hx hb dL_term_14 hl (by decide) rfl (fun ls hl => ?_)
      refine lv_iconst (v := (2 : Int32)) hx hb dL_term_16 (by decide) ?_
      exact z_retiW hx hb hr hlocks hP hS (Nat.le_of_ble_eq_true rfl) (Nat.le_of_ble_eq_true rfl) hm dL_term_17
  · refine lv_goto (tgt := 18) hx hb dL_term_7 (by decide) ?_
    refine lv_iconst (v := (0 : Int32)) hx hb dL_term_18 (by decide) ?_
    exact z_retiW hx hb hr hlocks hP hS (Nat.le_of_ble_eq_true rfl) (Nat.le_of_ble_eq_true rfl) hm dL_term_19
abbrev rm_L_bounds : Room := { frames := 8, cells := 2, slots := 12, locals := 134 }
def L_bounds (y1 : Int32) (y2 : Int32) (y3 : Int32) (S : ZS) (Q : Int32 → ZS → Prop) : Prop :=
  X6_bounds y1 y2 y3 S (fun S1 => Q (0 : Int32) S1) (fun E S1 => (E = "java/lang/IndexOutOfBoundsException" ∧ Q (1 : Int32) S1) ∨ (E = "java/lang/IllegalArgumentException" ∧ Q (2 : Int32) S1))
set_option maxHeartbeats 4000000 in
set_option maxRecDepth 100000 in
theorem c_L_bounds (l : Launch) (hlt : l.stackTraces = false) (D : va_G) (k : Nat → ClassId) (a : Nat → Nat) (hj : zDj a) (y1 : Int32) (y2 : Int32) (y3 : Int32) (S : ZS) (Q : Int32 → ZS → Prop) (hm : L_bounds y1 y2 y3 S Q) (sz : Nat) : Met l yL_bounds wsL_bounds rm_L_bounds (zPcX D k a [.ref (a 0), .int y1, .int y2, .int y3] S sz) (va_Qi Q (zB D k a) (zA a sz)) 2 12 (zA a sz) := by
  refine va_MetW (cc := cL_bounds) (maxL := 5) (ret := some .int) (hh := [(0, 7, 10, 25), (0, 7, 14, 15)]) (by decide) rfl ?_
  intro p e s m args below meth c s₁ B hml hv
  obtain ⟨rfl, hsz, hP, hK, hX⟩ := hv
  have hx := B.exec
  have hb := B.bytes
  have hr := B.returns
  have hts := atoms_spec (ws := wsL_bounds) B.pre
  have hown : s.vm.findClass RL = some m.cls := findClass_of_methodNamed B.named
  have hlocks := B.notSynchronized
  subst hsz
  have hS : va_S (zA a s.heap.size) s.heap s.heap [] := va_S.rf
  have hF : CallFix p m c cL_bounds 5 s _ wsL_bounds RL := ⟨hx, hb, hml, hown, hts⟩
  have hxt : c.exceptionTable.toList = [{ startPc := 0, endPc := 7, handlerPc := 10, catchType := 25 }, { startPc := 0, endPc := 7, handlerPc := 14, catchType := 15 }] := vx_table (x := yL_law) B (hts _ (List.mem_of_getElem? (i := 0) rfl))
  have hl := lv_entry ([.ref (a 0), .int y1, .int y2, .int y3]) (n := 5) (Nat.le_of_ble_eq_true rfl)
  rw [lg_entry_eq]
  generalize (lg_sl ([.ref (a 0), .int y1, .int y2, .int y3]) ++ List.replicate (5 - (lg_sl ([.ref (a 0), .int y1, .int y2, .int y3])).length) Slot.unset).toArray = ls at hl ⊢
  have hl : lv_has ls 5 [(0, .ref (a 0)), (1, .int y1), (2, .int y2), (3, .int y3)] := hl
  unfold L_bounds at hm
  refine lv_aload_n hx hb dL_bounds_0 rfl (lv_at hl 0 rfl) ?_
  refine lv_iload_n hx hb dL_bounds_1 rfl (lv_at hl 1 rfl) ?_
  refine lv_iload_n hx hb dL_bounds_2 rfl (lv_at hl 2 rfl) ?_
  refine lv_iload_n hx hb dL_bounds_3 rfl (lv_at hl 3 rfl) ?_
  refine z_kVv (As := [.int y1, .int y2, .int y3]) (rest := []) hF hK hX hP hS zO_0 rfl rfl (c_X6_bounds l hlt D k a hj y1 y2 y3 S _ _ hm _) (cwV 3 hts gL_bounds_X6_bounds rfl rfl rfl (by decide +kernel) ⟨(Nat.le_of_ble_eq_true rfl), (Nat.le_of_ble_eq_true rfl)⟩) rfl hl.1 rfl (Nat.le_of_ble_eq_true rfl) dL_bounds_4 ⟨(Nat.le_of_ble_eq_true rfl), (Nat.le_of_ble_eq_true rfl)⟩ (fun E S1 H locs q9 ce hm hP hS hce hcv hcl => ?_) (fun S1 H locs hm hP hS => ?_)
  · rcases hm with ⟨rfl, hm⟩ | ⟨rfl, hm⟩
    · refine vx_catch hown [] { startPc := 0, endPc := 7, handlerPc := 10, catchType := 25 } [{ startPc := 0, endPc := 7, handlerPc := 14, catchType := 15 }] hxt (fun z hz => by cases hz) (by decide) (by decide) (hts _ (List.mem_of_getElem? (i := 1) rfl)) (va_Nw.use rfl (hX.2.2.1 (.castable "java/lang/IndexOutOfBoundsException" "java/lang/IndexOutOfBoundsException") (by decide))) hce hcv hcl ?_
      refine lv_astore (lv' := [(4, .ref q9), (0, .ref (a 0)), (1, .int y1), (2, .int y2), (3, .int y3)]) hx hb dL_bounds_10 hl (by decide) rfl (fun ls hl => ?_)
      refine lv_iconst (v := (1 : Int32)) hx hb dL_bounds_12 (by decide) ?_
      exact z_retiW hx hb hr hlocks hP hS (Nat.le_of_ble_eq_true rfl) (Nat.le_of_ble_eq_true rfl) hm dL_bounds_13
    · refine vx_catch hown [{ startPc := 0, endPc := 7, handlerPc := 10, catchType := 25 }] { startPc := 0, endPc := 7, handlerPc := 14, catchType := 15 } [] hxt (fun z hz => by rw [List.mem_singleton.mp hz]; exact Or.inr ⟨by decide, "java/lang/IndexOutOfBoundsException", hts _ (List.mem_of_getElem? (i := 1) rfl), hX.2.2.2.2 ("java/lang/IllegalArgumentException", "java/lang/IndexOutOfBoundsException") (by decide)⟩) (by decide) (by decide) (hts _ (List.mem_of_getElem? (i := 2) rfl)) (va_Nw.use rfl (hX.2.2.1 (.castable "java/lang/IllegalArgumentException" "java/lang/IllegalArgumentException") (by decide))) hce hcv hcl ?_
      refine lv_astore (lv' := [(4, .ref q9), (0, .ref (a 0)), (1, .int y1), (2, .int y2), (3, .int y3)]) hx hb dL_bounds_14 hl (by decide) rfl (fun ls hl => ?_)
      refine lv_iconst (v := (2 : Int32)) hx hb dL_bounds_16 (by decide) ?_
      exact z_retiW hx hb hr hlocks hP hS (Nat.le_of_ble_eq_true rfl) (Nat.le_of_ble_eq_true rfl) hm dL_bounds_17
  · refine lv_goto (tgt := 18) hx hb dL_bounds_7 (by decide) ?_
    refine lv_iconst (v := (0 : Int32)) hx hb dL_bounds_18 (by decide) ?_
    exact z_retiW hx hb hr hlocks hP hS (Nat.le_of_ble_eq_true rfl) (Nat.le_of_ble_eq_true rfl) hm dL_bounds_19
abbrev rm_L_cost : Room := { frames := 8, cells := 2, slots := 12, locals := 134 }
def L_cost (y1 : Int32) (y2 : Int32) (S : ZS) (Q : Int32 → ZS → Prop) : Prop :=
  X6_cost y1 y2 S (fun r S1 => ∀ S2 : ZS, S2 = zw S1 82 0 (Int32.toInt64 r) → Q (0 : Int32) S2) (fun E S1 => (E = "java/lang/IndexOutOfBoundsException" ∧ Q (1 : Int32) S1) ∨ (E = "java/lang/IllegalArgumentException" ∧ Q (2 : Int32) S1))
set_option maxHeartbeats 4000000 in
set_option maxRecDepth 100000 in
theorem c_L_cost (l : Launch) (hlt : l.stackTraces = false) (D : va_G) (k : Nat → ClassId) (a : Nat → Nat) (hj : zDj a) (y1 : Int32) (y2 : Int32) (S : ZS) (Q : Int32 → ZS → Prop) (hm : L_cost y1 y2 S Q) (sz : Nat) : Met l yL_cost wsL_cost rm_L_cost (zPcX D k a [.ref (a 0), .int y1, .int y2, .ref (a 82)] S sz) (va_Qi Q (zB D k a) (zA a sz)) 2 12 (zA a sz) := by
  refine va_MetW (cc := cL_cost) (maxL := 5) (ret := some .int) (hh := [(0, 10, 13, 25), (0, 10, 17, 15)]) (by decide) rfl ?_
  intro p e s m args below meth c s₁ B hml hv
  obtain ⟨rfl, hsz, hP, hK, hX⟩ := hv
  have hx := B.exec
  have hb := B.bytes
  have hr := B.returns
  have hts := atoms_spec (ws := wsL_cost) B.pre
  have hown : s.vm.findClass RL = some m.cls := findClass_of_methodNamed B.named
  have hlocks := B.notSynchronized
  subst hsz
  have hS : va_S (zA a s.heap.size) s.heap s.heap [] := va_S.rf
  have hF : CallFix p m c cL_cost 5 s _ wsL_cost RL := ⟨hx, hb, hml, hown, hts⟩
  have hxt : c.exceptionTable.toList = [{ startPc := 0, endPc := 10, handlerPc := 13, catchType := 25 }, { startPc := 0, endPc := 10, handlerPc := 17, catchType := 15 }] := vx_table (x := yL_law) B (hts _ (List.mem_of_getElem? (i := 0) rfl))
  have hl := lv_entry ([.ref (a 0), .int y1, .int y2, .ref (a 82)]) (n := 5) (Nat.le_of_ble_eq_true rfl)
  rw [lg_entry_eq]
  generalize (lg_sl ([.ref (a 0), .int y1, .int y2, .ref (a 82)]) ++ List.replicate (5 - (lg_sl ([.ref (a 0), .int y1, .int y2, .ref (a 82)])).length) Slot.unset).toArray = ls at hl ⊢
  have hl : lv_has ls 5 [(0, .ref (a 0)), (1, .int y1), (2, .int y2), (3, .ref (a 82))] := hl
  unfold L_cost at hm
  refine lv_aload_n hx hb dL_cost_0 rfl (lv_at hl 3 rfl) ?_
  refine lv_iconst (v := (0 : Int32)) hx hb dL_cost_1 (by decide) ?_
  refine lv_aload_n hx hb dL_cost_2 rfl (lv_at hl 0 rfl) ?_
  refine lv_iload_n hx hb dL_cost_3 rfl (lv_at hl 1 rfl) ?_
  refine lv_iload_n hx hb dL_cost_4 rfl (lv_at hl 2 rfl) ?_
  refine z_kVi (As := [.int y1, .int y2]) (rest := [.int (0 : Int32), .ref (a 82)]) hF hK hX hP hS zO_0 rfl rfl (c_X6_cost l hlt D k a hj y1 y2 S _ _ hm _) (cwV 2 hts gL_cost_X6_cost rfl rfl rfl (by decide +kernel) ⟨(Nat.le_of_ble_eq_true rfl), (Nat.le_of_ble_eq_true rfl)⟩) rfl hl.1 rfl (Nat.le_of_ble_eq_true rfl) dL_cost_5 ⟨(Nat.le_of_ble_eq_true rfl), (Nat.le_of_ble_eq_true rfl)⟩ (fun E S1 H locs q9 ce hm hP hS hce hcv hcl => ?_) (fun r S1 H locs hm hP hS => ?_)
  · rcases hm with ⟨rfl, hm⟩ | ⟨rfl, hm⟩
    · refine vx_catch hown [] { startPc := 0, endPc := 10, handlerPc := 13, catchType := 25 } [{ startPc := 0, endPc := 10, handlerPc := 17, catchType := 15 }] hxt (fun z hz => by cases hz) (by decide) (by decide) (hts _ (List.mem_of_getElem? (i := 1) rfl)) (va_Nw.use rfl (hX.2.2.1 (.castable "java/lang/IndexOutOfBoundsException" "java/lang/IndexOutOfBoundsException") (by decide))) hce hcv hcl ?_
      refine lv_astore (lv' := [(4, .ref q9), (0, .ref (a 0)), (1, .int y1), (2, .int y2), (3, .ref (a 82))]) hx hb dL_cost_13 hl (by decide) rfl (fun ls hl => ?_)
      refine lv_iconst (v := (1 : Int32)) hx hb dL_cost_15 (by decide) ?_
      exact z_retiW hx hb hr hlocks hP hS (Nat.le_of_ble_eq_true rfl) (Nat.le_of_ble_eq_true rfl) hm dL_cost_16
    · refine vx_catch hown [{ startPc := 0, endPc := 10, handlerPc := 13, catchType := 25 }] { startPc := 0, endPc := 10, handlerPc := 17, catchType := 15 } [] hxt (fun z hz => by rw [List.mem_singleton.mp hz]; exact Or.inr ⟨by decide, "java/lang/IndexOutOfBoundsException", hts _ (List.mem_of_getElem? (i := 1) rfl), hX.2.2.2.2 ("java/lang/IllegalArgumentException", "java/lang/IndexOutOfBoundsException") (by decide)⟩) (by decide) (by decide) (hts _ (List.mem_of_getElem? (i := 2) rfl)) (va_Nw.use rfl (hX.2.2.1 (.castable "java/lang/IllegalArgumentException" "java/lang/IllegalArgumentException") (by decide))) hce hcv hcl ?_
      refine lv_astore (lv' := [(4, .ref q9), (0, .ref (a 0)), (1, .int y1), (2, .int y2), (3, .ref (a 82))]) hx hb dL_cost_17 hl (by decide) rfl (fun ls hl => ?_)
      refine lv_iconst (v := (2 : Int32)) hx hb dL_cost_19 (by decide) ?_
      exact z_retiW hx hb hr hlocks hP hS (Nat.le_of_ble_eq_true rfl) (Nat.le_of_ble_eq_true rfl) hm dL_cost_20
  · refine lv_i2l hx hb dL_cost_8 rfl ?_
    refine z_last hx hb hj hK hP hS zJ_82 (by unfold vp_in; decide) dL_cost_9 (fun H locs hP hS => ?_)
    have hm := hm _ rfl
    refine lv_goto (tgt := 21) hx hb dL_cost_10 (by decide) ?_
    refine lv_iconst (v := (0 : Int32)) hx hb dL_cost_21 (by decide) ?_
    exact z_retiW hx hb hr hlocks hP hS (Nat.le_of_ble_eq_true rfl) (Nat.le_of_ble_eq_true rfl) hm dL_cost_22
abbrev rm_L_right : Room := { frames := 8, cells := 2, slots := 12, locals := 134 }
def L_right (y1 : Int32) (y2 : Int32) (S : ZS) (Q : Int32 → ZS → Prop) : Prop :=
  X6_right y1 y2 S (fun r S1 => ∀ S2 : ZS, S2 = zw S1 82 0 (Int32.toInt64 r) → Q (0 : Int32) S2) (fun E S1 => (E = "java/lang/IndexOutOfBoundsException" ∧ Q (1 : Int32) S1) ∨ (E = "java/lang/IllegalArgumentException" ∧ Q (2 : Int32) S1))
set_option maxHeartbeats 4000000 in
set_option maxRecDepth 100000 in
theorem c_L_right (l : Launch) (hlt : l.stackTraces = false) (D : va_G) (k : Nat → ClassId) (a : Nat → Nat) (hj : zDj a) (y1 : Int32) (y2 : Int32) (S : ZS) (Q : Int32 → ZS → Prop) (hm : L_right y1 y2 S Q) (sz : Nat) : Met l yL_right wsL_right rm_L_right (zPcX D k a [.ref (a 0), .int y1, .int y2, .ref (a 82)] S sz) (va_Qi Q (zB D k a) (zA a sz)) 2 12 (zA a sz) := by
  refine va_MetW (cc := cL_right) (maxL := 5) (ret := some .int) (hh := [(0, 10, 13, 25), (0, 10, 17, 15)]) (by decide) rfl ?_
  intro p e s m args below meth c s₁ B hml hv
  obtain ⟨rfl, hsz, hP, hK, hX⟩ := hv
  have hx := B.exec
  have hb := B.bytes
  have hr := B.returns
  have hts := atoms_spec (ws := wsL_right) B.pre
  have hown : s.vm.findClass RL = some m.cls := findClass_of_methodNamed B.named
  have hlocks := B.notSynchronized
  subst hsz
  have hS : va_S (zA a s.heap.size) s.heap s.heap [] := va_S.rf
  have hF : CallFix p m c cL_right 5 s _ wsL_right RL := ⟨hx, hb, hml, hown, hts⟩
  have hxt : c.exceptionTable.toList = [{ startPc := 0, endPc := 10, handlerPc := 13, catchType := 25 }, { startPc := 0, endPc := 10, handlerPc := 17, catchType := 15 }] := vx_table (x := yL_law) B (hts _ (List.mem_of_getElem? (i := 0) rfl))
  have hl := lv_entry ([.ref (a 0), .int y1, .int y2, .ref (a 82)]) (n := 5) (Nat.le_of_ble_eq_true rfl)
  rw [lg_entry_eq]
  generalize (lg_sl ([.ref (a 0), .int y1, .int y2, .ref (a 82)]) ++ List.replicate (5 - (lg_sl ([.ref (a 0), .int y1, .int y2, .ref (a 82)])).length) Slot.unset).toArray = ls at hl ⊢
  have hl : lv_has ls 5 [(0, .ref (a 0)), (1, .int y1), (2, .int y2), (3, .ref (a 82))] := hl
  unfold L_right at hm
  refine lv_aload_n hx hb dL_right_0 rfl (lv_at hl 3 rfl) ?_
  refine lv_iconst (v := (0 : Int32)) hx hb dL_right_1 (by decide) ?_
  refine lv_aload_n hx hb dL_right_2 rfl (lv_at hl 0 rfl) ?_
  refine lv_iload_n hx hb dL_right_3 rfl (lv_at hl 1 rfl) ?_
  refine lv_iload_n hx hb dL_right_4 rfl (lv_at hl 2 rfl) ?_
  refine z_kVi (As := [.int y1, .int y2]) (rest := [.int (0 : Int32), .ref (a 82)]) hF hK hX hP hS zO_0 rfl rfl (c_X6_right l hlt D k a hj y1 y2 S _ _ hm _) (cwV 2 hts gL_right_X6_right rfl rfl rfl (by decide +kernel) ⟨(Nat.le_of_ble_eq_true rfl), (Nat.le_of_ble_eq_true rfl)⟩) rfl hl.1 rfl (Nat.le_of_ble_eq_true rfl) dL_right_5 ⟨(Nat.le_of_ble_eq_true rfl), (Nat.le_of_ble_eq_true rfl)⟩ (fun E S1 H locs q9 ce hm hP hS hce hcv hcl => ?_) (fun r S1 H locs hm hP hS => ?_)
  · rcases hm with ⟨rfl, hm⟩ | ⟨rfl, hm⟩
    · refine vx_catch hown [] { startPc := 0, endPc := 10, handlerPc := 13, catchType := 25 } [{ startPc := 0, endPc := 10, handlerPc := 17, catchType := 15 }] hxt (fun z hz => by cases hz) (by decide) (by decide) (hts _ (List.mem_of_getElem? (i := 1) rfl)) (va_Nw.use rfl (hX.2.2.1 (.castable "java/lang/IndexOutOfBoundsException" "java/lang/IndexOutOfBoundsException") (by decide))) hce hcv hcl ?_
      refine lv_astore (lv' := [(4, .ref q9), (0, .ref (a 0)), (1, .int y1), (2, .int y2), (3, .ref (a 82))]) hx hb dL_right_13 hl (by decide) rfl (fun ls hl => ?_)
      refine lv_iconst (v := (1 : Int32)) hx hb dL_right_15 (by decide) ?_
      exact z_retiW hx hb hr hlocks hP hS (Nat.le_of_ble_eq_true rfl) (Nat.le_of_ble_eq_true rfl) hm dL_right_16
    · refine vx_catch hown [{ startPc := 0, endPc := 10, handlerPc := 13, catchType := 25 }] { startPc := 0, endPc := 10, handlerPc := 17, catchType := 15 } [] hxt (fun z hz => by rw [List.mem_singleton.mp hz]; exact Or.inr ⟨by decide, "java/lang/IndexOutOfBoundsException", hts _ (List.mem_of_getElem? (i := 1) rfl), hX.2.2.2.2 ("java/lang/IllegalArgumentException", "java/lang/IndexOutOfBoundsException") (by decide)⟩) (by decide) (by decide) (hts _ (List.mem_of_getElem? (i := 2) rfl)) (va_Nw.use rfl (hX.2.2.1 (.castable "java/lang/IllegalArgumentException" "java/lang/IllegalArgumentException") (by decide))) hce hcv hcl ?_
      refine lv_astore (lv' := [(4, .ref q9), (0, .ref (a 0)), (1, .int y1), (2, .int y2), (3, .ref (a 82))]) hx hb dL_right_17 hl (by decide) rfl (fun ls hl => ?_)
      refine lv_iconst (v := (2 : Int32)) hx hb dL_right_19 (by decide) ?_
      exact z_retiW hx hb hr hlocks hP hS (Nat.le_of_ble_eq_true rfl) (Nat.le_of_ble_eq_true rfl) hm dL_right_20
  · refine lv_i2l hx hb dL_right_8 rfl ?_
    refine z_last hx hb hj hK hP hS zJ_82 (by unfold vp_in; decide) dL_right_9 (fun H locs hP hS => ?_)
    have hm := hm _ rfl
    refine lv_goto (tgt := 21) hx hb dL_right_10 (by decide) ?_
    refine lv_iconst (v := (0 : Int32)) hx hb dL_right_21 (by decide) ?_
    exact z_retiW hx hb hr hlocks hP hS (Nat.le_of_ble_eq_true rfl) (Nat.le_of_ble_eq_true rfl) hm dL_right_22
abbrev rm_L_part : Room := { frames := 8, cells := 1, slots := 6, locals := 132 }
def L_part (y1 : Int32) (S : ZS) (Q : Int32 → ZS → Prop) : Prop :=
  X6_part y1 S (fun r S1 => ∀ S2 : ZS, S2 = zw S1 82 0 (Int32.toInt64 r) → Q (0 : Int32) S2) (fun E S1 => (E = "java/lang/IndexOutOfBoundsException" ∧ Q (1 : Int32) S1))
set_option maxHeartbeats 4000000 in
set_option maxRecDepth 100000 in
theorem c_L_part (l : Launch) (hlt : l.stackTraces = false) (D : va_G) (k : Nat → ClassId) (a : Nat → Nat) (hj : zDj a) (y1 : Int32) (S : ZS) (Q : Int32 → ZS → Prop) (hm : L_part y1 S Q) (sz : Nat) : Met l yL_part wsL_part rm_L_part (zPcX D k a [.ref (a 0), .int y1, .ref (a 82)] S sz) (va_Qi Q (zB D k a) (zA a sz)) 1 6 (zA a sz) := by
  refine va_MetW (cc := cL_part) (maxL := 4) (ret := some .int) (hh := [(0, 9, 12, 25)]) (by decide) rfl ?_
  intro p e s m args below meth c s₁ B hml hv
  obtain ⟨rfl, hsz, hP, hK, hX⟩ := hv
  have hx := B.exec
  have hb := B.bytes
  have hr := B.returns
  have hts := atoms_spec (ws := wsL_part) B.pre
  have hown : s.vm.findClass RL = some m.cls := findClass_of_methodNamed B.named
  have hlocks := B.notSynchronized
  subst hsz
  have hS : va_S (zA a s.heap.size) s.heap s.heap [] := va_S.rf
  have hF : CallFix p m c cL_part 4 s _ wsL_part RL := ⟨hx, hb, hml, hown, hts⟩
  have hxt : c.exceptionTable.toList = [{ startPc := 0, endPc := 9, handlerPc := 12, catchType := 25 }] := vx_table (x := yL_law) B (hts _ (List.mem_of_getElem? (i := 0) rfl))
  have hl := lv_entry ([.ref (a 0), .int y1, .ref (a 82)]) (n := 4) (Nat.le_of_ble_eq_true rfl)
  rw [lg_entry_eq]
  generalize (lg_sl ([.ref (a 0), .int y1, .ref (a 82)]) ++ List.replicate (4 - (lg_sl ([.ref (a 0), .int y1, .ref (a 82)])).length) Slot.unset).toArray = ls at hl ⊢
  have hl : lv_has ls 4 [(0, .ref (a 0)), (1, .int y1), (2, .ref (a 82))] := hl
  unfold L_part at hm
  refine lv_aload_n hx hb dL_part_0 rfl (lv_at hl 2 rfl) ?_
  refine lv_iconst (v := (0 : Int32)) hx hb dL_part_1 (by decide) ?_
  refine lv_aload_n hx hb dL_part_2 rfl (lv_at hl 0 rfl) ?_
  refine lv_iload_n hx hb dL_part_3 rfl (lv_at hl 1 rfl) ?_
  refine z_kVi (As := [.int y1]) (rest := [.int (0 : Int32), .ref (a 82)]) hF hK hX hP hS zO_0 rfl rfl (c_X6_part l hlt D k a hj y1 S _ _ hm _) (cwV 1 hts gL_part_X6_part rfl rfl rfl (by decide +kernel) ⟨(Nat.le_of_ble_eq_true rfl), (Nat.le_of_ble_eq_true rfl)⟩) rfl hl.1 rfl (Nat.le_of_ble_eq_true rfl) dL_part_4 ⟨(Nat.le_of_ble_eq_true rfl), (Nat.le_of_ble_eq_true rfl)⟩ (fun E S1 H locs q9 ce hm hP hS hce hcv hcl => ?_) (fun r S1 H locs hm hP hS => ?_)
  · obtain ⟨rfl, hm⟩ := hm
    refine vx_catch hown [] { startPc := 0, endPc := 9, handlerPc := 12, catchType := 25 } [] hxt (fun z hz => by cases hz) (by decide) (by decide) (hts _ (List.mem_of_getElem? (i := 1) rfl)) (va_Nw.use rfl (hX.2.2.1 (.castable "java/lang/IndexOutOfBoundsException" "java/lang/IndexOutOfBoundsException") (by decide))) hce hcv hcl ?_
    refine lv_astore_n (lv' := [(3, .ref q9), (0, .ref (a 0)), (1, .int y1), (2, .ref (a 82))]) hx hb dL_part_12 rfl hl (by decide) rfl (fun ls hl => ?_)
    refine lv_iconst (v := (1 : Int32)) hx hb dL_part_13 (by decide) ?_
    exact z_retiW hx hb hr hlocks hP hS (Nat.le_of_ble_eq_true rfl) (Nat.le_of_ble_eq_true rfl) hm dL_part_14
  · refine lv_i2l hx hb dL_part_7 rfl ?_
    refine z_last hx hb hj hK hP hS zJ_82 (by unfold vp_in; decide) dL_part_8 (fun H locs hP hS => ?_)
    have hm := hm _ rfl
    refine lv_goto (tgt := 15) hx hb dL_part_9 (by decide) ?_
    refine lv_iconst (v := (0 : Int32)) hx hb dL_part_15 (by decide) ?_
    exact z_retiW hx hb hr hlocks hP hS (Nat.le_of_ble_eq_true rfl) (Nat.le_of_ble_eq_true rfl) hm dL_part_16
abbrev rm_L_sign : Room := { frames := 8, cells := 1, slots := 6, locals := 132 }
def L_sign (y1 : Int32) (S : ZS) (Q : Int32 → ZS → Prop) : Prop :=
  X6_sign y1 S (fun r S1 => ∀ S2 : ZS, S2 = zw S1 82 0 (Int32.toInt64 r) → Q (0 : Int32) S2) (fun E S1 => (E = "java/lang/IllegalStateException" ∧ Q (1 : Int32) S1) ∨ (E = "java/lang/IndexOutOfBoundsException" ∧ Q (2 : Int32) S1))
set_option maxHeartbeats 4000000 in
set_option maxRecDepth 100000 in
theorem c_L_sign (l : Launch) (hlt : l.stackTraces = false) (D : va_G) (k : Nat → ClassId) (a : Nat → Nat) (hj : zDj a) (y1 : Int32) (S : ZS) (Q : Int32 → ZS → Prop) (hm : L_sign y1 S Q) (sz : Nat) : Met l yL_sign wsL_sign rm_L_sign (zPcX D k a [.ref (a 0), .int y1, .ref (a 82)] S sz) (va_Qi Q (zB D k a) (zA a sz)) 1 6 (zA a sz) := by
  refine va_MetW (cc := cL_sign) (maxL := 4) (ret := some .int) (hh := [(0, 9, 12, 13), (0, 9, 15, 25)]) (by decide) rfl ?_
  intro p e s m args below meth c s₁ B hml hv
  obtain ⟨rfl, hsz, hP, hK, hX⟩ := hv
  have hx := B.exec
  have hb := B.bytes
  have hr := B.returns
  have hts := atoms_spec (ws := wsL_sign) B.pre
  have hown : s.vm.findClass RL = some m.cls := findClass_of_methodNamed B.named
  have hlocks := B.notSynchronized
  subst hsz
  have hS : va_S (zA a s.heap.size) s.heap s.heap [] := va_S.rf
  have hF : CallFix p m c cL_sign 4 s _ wsL_sign RL := ⟨hx, hb, hml, hown, hts⟩
  have hxt : c.exceptionTable.toList = [{ startPc := 0, endPc := 9, handlerPc := 12, catchType := 13 }, { startPc := 0, endPc := 9, handlerPc := 15, catchType := 25 }] := vx_table (x := yL_law) B (hts _ (List.mem_of_getElem? (i := 0) rfl))
  have hl := lv_entry ([.ref (a 0), .int y1, .ref (a 82)]) (n := 4) (Nat.le_of_ble_eq_true rfl)
  rw [lg_entry_eq]
  generalize (lg_sl ([.ref (a 0), .int y1, .ref (a 82)]) ++ List.replicate (4 - (lg_sl ([.ref (a 0), .int y1, .ref (a 82)])).length) Slot.unset).toArray = ls at hl ⊢
  have hl : lv_has ls 4 [(0, .ref (a 0)), (1, .int y1), (2, .ref (a 82))] := hl
  unfold L_sign at hm
  refine lv_aload_n hx hb dL_sign_0 rfl (lv_at hl 2 rfl) ?_
  refine lv_iconst (v := (0 : Int32)) hx hb dL_sign_1 (by decide) ?_
  refine lv_aload_n hx hb dL_sign_2 rfl (lv_at hl 0 rfl) ?_
  refine lv_iload_n hx hb dL_sign_3 rfl (lv_at hl 1 rfl) ?_
  refine z_kVi (As := [.int y1]) (rest := [.int (0 : Int32), .ref (a 82)]) hF hK hX hP hS zO_0 rfl rfl (c_X6_sign l hlt D k a hj y1 S _ _ hm _) (cwV 1 hts gL_sign_X6_sign rfl rfl rfl (by decide +kernel) ⟨(Nat.le_of_ble_eq_true rfl), (Nat.le_of_ble_eq_true rfl)⟩) rfl hl.1 rfl (Nat.le_of_ble_eq_true rfl) dL_sign_4 ⟨(Nat.le_of_ble_eq_true rfl), (Nat.le_of_ble_eq_true rfl)⟩ (fun E S1 H locs q9 ce hm hP hS hce hcv hcl => ?_) (fun r S1 H locs hm hP hS => ?_)
  · rcases hm with ⟨rfl, hm⟩ | ⟨rfl, hm⟩
    · refine vx_catch hown [] { startPc := 0, endPc := 9, handlerPc := 12, catchType := 13 } [{ startPc := 0, endPc := 9, handlerPc := 15, catchType := 25 }] hxt (fun z hz => by cases hz) (by decide) (by decide) (hts _ (List.mem_of_getElem? (i := 1) rfl)) (va_Nw.use rfl (hX.2.2.1 (.castable "java/lang/IllegalStateException" "java/lang/IllegalStateException") (by decide))) hce hcv hcl ?_
      refine lv_astore_n (lv' := [(3, .ref q9), (0, .ref (a 0)), (1, .int y1), (2, .ref (a 82))]) hx hb dL_sign_12 rfl hl (by decide) rfl (fun ls hl => ?_)
      refine lv_iconst (v := (1 : Int32)) hx hb dL_sign_13 (by decide) ?_
      exact z_retiW hx hb hr hlocks hP hS (Nat.le_of_ble_eq_true rfl) (Nat.le_of_ble_eq_true rfl) hm dL_sign_14
    · refine vx_catch hown [{ startPc := 0, endPc := 9, handlerPc := 12, catchType := 13 }] { startPc := 0, endPc := 9, handlerPc := 15, catchType := 25 } [] hxt (fun z hz => by rw [List.mem_singleton.mp hz]; exact Or.inr ⟨by decide, "java/lang/IllegalStateException", hts _ (List.mem_of_getElem? (i := 1) rfl), hX.2.2.2.2 ("java/lang/IndexOutOfBoundsException", "java/lang/IllegalStateException") (by decide)⟩) (by decide) (by decide) (hts _ (List.mem_of_getElem? (i := 2) rfl)) (va_Nw.use rfl (hX.2.2.1 (.castable "java/lang/IndexOutOfBoundsException" "java/lang/IndexOutOfBoundsException") (by decide))) hce hcv hcl ?_
      refine lv_astore_n (lv' := [(3, .ref q9), (0, .ref (a 0)), (1, .int y1), (2, .ref (a 82))]) hx hb dL_sign_15 rfl hl (by decide) rfl (fun ls hl => ?_)
      refine lv_iconst (v := (2 : Int32)) hx hb dL_sign_16 (by decide) ?_
      exact z_retiW hx hb hr hlocks hP hS (Nat.le_of_ble_eq_true rfl) (Nat.le_of_ble_eq_true rfl) hm dL_sign_17
  · refine lv_i2l hx hb dL_sign_7 rfl ?_
    refine z_last hx hb hj hK hP hS zJ_82 (by unfold vp_in; decide) dL_sign_8 (fun H locs hP hS => ?_)
    have hm := hm _ rfl
    refine lv_goto (tgt := 18) hx hb dL_sign_9 (by decide) ?_
    refine lv_iconst (v := (0 : Int32)) hx hb dL_sign_18 (by decide) ?_
    exact z_retiW hx hb hr hlocks hP hS (Nat.le_of_ble_eq_true rfl) (Nat.le_of_ble_eq_true rfl) hm dL_sign_19
abbrev rm_L_at : Room := { frames := 8, cells := 2, slots := 12, locals := 132 }
def L_at (y1 : Int32) (S : ZS) (Q : Int32 → ZS → Prop) : Prop :=
  X6_at y1 S (fun r S1 => ∀ S2 : ZS, S2 = zw S1 82 0 (Int32.toInt64 r) → Q (0 : Int32) S2) (fun E S1 => (E = "java/lang/IllegalStateException" ∧ Q (1 : Int32) S1) ∨ (E = "java/lang/IndexOutOfBoundsException" ∧ Q (2 : Int32) S1))
set_option maxHeartbeats 4000000 in
set_option maxRecDepth 100000 in
theorem c_L_at (l : Launch) (hlt : l.stackTraces = false) (D : va_G) (k : Nat → ClassId) (a : Nat → Nat) (hj : zDj a) (y1 : Int32) (S : ZS) (Q : Int32 → ZS → Prop) (hm : L_at y1 S Q) (sz : Nat) : Met l yL_at wsL_at rm_L_at (zPcX D k a [.ref (a 0), .int y1, .ref (a 82)] S sz) (va_Qi Q (zB D k a) (zA a sz)) 2 12 (zA a sz) := by
  refine va_MetW (cc := cL_at) (maxL := 4) (ret := some .int) (hh := [(0, 9, 12, 13), (0, 9, 15, 25)]) (by decide) rfl ?_
  intro p e s m args below meth c s₁ B hml hv
  obtain ⟨rfl, hsz, hP, hK, hX⟩ := hv
  have hx := B.exec
  have hb := B.bytes
  have hr := B.returns
  have hts := atoms_spec (ws := wsL_at) B.pre
  have hown : s.vm.findClass RL = some m.cls := findClass_of_methodNamed B.named
  have hlocks := B.notSynchronized
  subst hsz
  have hS : va_S (zA a s.heap.size) s.heap s.heap [] := va_S.rf
  have hF : CallFix p m c cL_at 4 s _ wsL_at RL := ⟨hx, hb, hml, hown, hts⟩
  have hxt : c.exceptionTable.toList = [{ startPc := 0, endPc := 9, handlerPc := 12, catchType := 13 }, { startPc := 0, endPc := 9, handlerPc := 15, catchType := 25 }] := vx_table (x := yL_law) B (hts _ (List.mem_of_getElem? (i := 0) rfl))
  have hl := lv_entry ([.ref (a 0), .int y1, .ref (a 82)]) (n := 4) (Nat.le_of_ble_eq_true rfl)
  rw [lg_entry_eq]
  generalize (lg_sl ([.ref (a 0), .int y1, .ref (a 82)]) ++ List.replicate (4 - (lg_sl ([.ref (a 0), .int y1, .ref (a 82)])).length) Slot.unset).toArray = ls at hl ⊢
  have hl : lv_has ls 4 [(0, .ref (a 0)), (1, .int y1), (2, .ref (a 82))] := hl
  unfold L_at at hm
  refine lv_aload_n hx hb dL_at_0 rfl (lv_at hl 2 rfl) ?_
  refine lv_iconst (v := (0 : Int32)) hx hb dL_at_1 (by decide) ?_
  refine lv_aload_n hx hb dL_at_2 rfl (lv_at hl 0 rfl) ?_
  refine lv_iload_n hx hb dL_at_3 rfl (lv_at hl 1 rfl) ?_
  refine z_kVi (As := [.int y1]) (rest := [.int (0 : Int32), .ref (a 82)]) hF hK hX hP hS zO_0 rfl rfl (c_X6_at l hlt D k a hj y1 S _ _ hm _) (cwV 1 hts gL_at_X6_at rfl rfl rfl (by decide +kernel) ⟨(Nat.le_of_ble_eq_true rfl), (Nat.le_of_ble_eq_true rfl)⟩) rfl hl.1 rfl (Nat.le_of_ble_eq_true rfl) dL_at_4 ⟨(Nat.le_of_ble_eq_true rfl), (Nat.le_of_ble_eq_true rfl)⟩ (fun E S1 H locs q9 ce hm hP hS hce hcv hcl => ?_) (fun r S1 H locs hm hP hS => ?_)
  · rcases hm with ⟨rfl, hm⟩ | ⟨rfl, hm⟩
    · refine vx_catch hown [] { startPc := 0, endPc := 9, handlerPc := 12, catchType := 13 } [{ startPc := 0, endPc := 9, handlerPc := 15, catchType := 25 }] hxt (fun z hz => by cases hz) (by decide) (by decide) (hts _ (List.mem_of_getElem? (i := 1) rfl)) (va_Nw.use rfl (hX.2.2.1 (.castable "java/lang/IllegalStateException" "java/lang/IllegalStateException") (by decide))) hce hcv hcl ?_
      refine lv_astore_n (lv' := [(3, .ref q9), (0, .ref (a 0)), (1, .int y1), (2, .ref (a 82))]) hx hb dL_at_12 rfl hl (by decide) rfl (fun ls hl => ?_)
      refine lv_iconst (v := (1 : Int32)) hx hb dL_at_13 (by decide) ?_
      exact z_retiW hx hb hr hlocks hP hS (Nat.le_of_ble_eq_true rfl) (Nat.le_of_ble_eq_true rfl) hm dL_at_14
    · refine vx_catch hown [{ startPc := 0, endPc := 9, handlerPc := 12, catchType := 13 }] { startPc := 0, endPc := 9, handlerPc := 15, catchType := 25 } [] hxt (fun z hz => by rw [List.mem_singleton.mp hz]; exact Or.inr ⟨by decide, "java/lang/IllegalStateException", hts _ (List.mem_of_getElem? (i := 1) rfl), hX.2.2.2.2 ("java/lang/IndexOutOfBoundsException", "java/lang/IllegalStateException") (by decide)⟩) (by decide) (by decide) (hts _ (List.mem_of_getElem? (i := 2) rfl)) (va_Nw.use rfl (hX.2.2.1 (.castable "java/lang/IndexOutOfBoundsException" "java/lang/IndexOutOfBoundsException") (by decide))) hce hcv hcl ?_
      refine lv_astore_n (lv' := [(3, .ref q9), (0, .ref (a 0)), (1, .int y1), (2, .ref (a 82))]) hx hb dL_at_15 rfl hl (by decide) rfl (fun ls hl => ?_)
      refine lv_iconst (v := (2 : Int32)) hx hb dL_at_16 (by decide) ?_
      exact z_retiW hx hb hr hlocks hP hS (Nat.le_of_ble_eq_true rfl) (Nat.le_of_ble_eq_true rfl) hm dL_at_17
  · refine lv_i2l hx hb dL_at_7 rfl ?_
    refine z_last hx hb hj hK hP hS zJ_82 (by unfold vp_in; decide) dL_at_8 (fun H locs hP hS => ?_)
    have hm := hm _ rfl
    refine lv_goto (tgt := 18) hx hb dL_at_9 (by decide) ?_
    refine lv_iconst (v := (0 : Int32)) hx hb dL_at_18 (by decide) ?_
    exact z_retiW hx hb hr hlocks hP hS (Nat.le_of_ble_eq_true rfl) (Nat.le_of_ble_eq_true rfl) hm dL_at_19
abbrev rm_L_value : Room := { frames := 8, cells := 1, slots := 6, locals := 132 }
def L_value (S : ZS) (Q : Int32 → ZS → Prop) : Prop :=
  X6_value S (fun r S1 => ∀ S2 : ZS, S2 = zw S1 82 0 (Int32.toInt64 r) → Q (0 : Int32) S2) (fun E S1 => (E = "java/lang/IllegalStateException" ∧ Q (1 : Int32) S1))
set_option maxHeartbeats 4000000 in
set_option maxRecDepth 100000 in
theorem c_L_value (l : Launch) (hlt : l.stackTraces = false) (D : va_G) (k : Nat → ClassId) (a : Nat → Nat) (hj : zDj a) (S : ZS) (Q : Int32 → ZS → Prop) (hm : L_value  S Q) (sz : Nat) : Met l yL_value wsL_value rm_L_value (zPcX D k a [.ref (a 0), .ref (a 82)] S sz) (va_Qi Q (zB D k a) (zA a sz)) 1 6 (zA a sz) := by
  refine va_MetW (cc := cL_value) (maxL := 3) (ret := some .int) (hh := [(0, 8, 11, 13)]) (by decide) rfl ?_
  intro p e s m args below meth c s₁ B hml hv
  obtain ⟨rfl, hsz, hP, hK, hX⟩ := hv
  have hx := B.exec
  have hb := B.bytes
  have hr := B.returns
  have hts := atoms_spec (ws := wsL_value) B.pre
  have hown : s.vm.findClass RL = some m.cls := findClass_of_methodNamed B.named
  have hlocks := B.notSynchronized
  subst hsz
  have hS : va_S (zA a s.heap.size) s.heap s.heap [] := va_S.rf
  have hF : CallFix p m c cL_value 3 s _ wsL_value RL := ⟨hx, hb, hml, hown, hts⟩
  have hxt : c.exceptionTable.toList = [{ startPc := 0, endPc := 8, handlerPc := 11, catchType := 13 }] := vx_table (x := yL_law) B (hts _ (List.mem_of_getElem? (i := 0) rfl))
  have hl := lv_entry ([.ref (a 0), .ref (a 82)]) (n := 3) (Nat.le_of_ble_eq_true rfl)
  rw [lg_entry_eq]
  generalize (lg_sl ([.ref (a 0), .ref (a 82)]) ++ List.replicate (3 - (lg_sl ([.ref (a 0), .ref (a 82)])).length) Slot.unset).toArray = ls at hl ⊢
  have hl : lv_has ls 3 [(0, .ref (a 0)), (1, .ref (a 82))] := hl
  unfold L_value at hm
  refine lv_aload_n hx hb dL_value_0 rfl (lv_at hl 1 rfl) ?_
  refine lv_iconst (v := (0 : Int32)) hx hb dL_value_1 (by decide) ?_
  refine lv_aload_n hx hb dL_value_2 rfl (lv_at hl 0 rfl) ?_
  refine z_kVi (As := []) (rest := [.int (0 : Int32), .ref (a 82)]) hF hK hX hP hS zO_0 rfl rfl (c_X6_value l hlt D k a hj  S _ _ hm _) (cwV 0 hts gL_value_X6_value rfl rfl rfl (by decide +kernel) ⟨(Nat.le_of_ble_eq_true rfl), (Nat.le_of_ble_eq_true rfl)⟩) rfl hl.1 rfl (Nat.le_of_ble_eq_true rfl) dL_value_3 ⟨(Nat.le_of_ble_eq_true rfl), (Nat.le_of_ble_eq_true rfl)⟩ (fun E S1 H locs q9 ce hm hP hS hce hcv hcl => ?_) (fun r S1 H locs hm hP hS => ?_)
  · obtain ⟨rfl, hm⟩ := hm
    refine vx_catch hown [] { startPc := 0, endPc := 8, handlerPc := 11, catchType := 13 } [] hxt (fun z hz => by cases hz) (by decide) (by decide) (hts _ (List.mem_of_getElem? (i := 1) rfl)) (va_Nw.use rfl (hX.2.2.1 (.castable "java/lang/IllegalStateException" "java/lang/IllegalStateException") (by decide))) hce hcv hcl ?_
    refine lv_astore_n (lv' := [(2, .ref q9), (0, .ref (a 0)), (1, .ref (a 82))]) hx hb dL_value_11 rfl hl (by decide) rfl (fun ls hl => ?_)
    refine lv_iconst (v := (1 : Int32)) hx hb dL_value_12 (by decide) ?_
    exact z_retiW hx hb hr hlocks hP hS (Nat.le_of_ble_eq_true rfl) (Nat.le_of_ble_eq_true rfl) hm dL_value_13
  · refine lv_i2l hx hb dL_value_6 rfl ?_
    refine z_last hx hb hj hK hP hS zJ_82 (by unfold vp_in; decide) dL_value_7 (fun H locs hP hS => ?_)
    have hm := hm _ rfl
    refine lv_goto (tgt := 14) hx hb dL_value_8 (by decide) ?_
    refine lv_iconst (v := (0 : Int32)) hx hb dL_value_14 (by decide) ?_
    exact z_retiW hx hb hr hlocks hP hS (Nat.le_of_ble_eq_true rfl) (Nat.le_of_ble_eq_true rfl) hm dL_value_15
abbrev rm_L_sum : Room := { frames := 8, cells := 2, slots := 12, locals := 134 }
def L_sum (y1 : Int32) (S : ZS) (Q : Int32 → ZS → Prop) : Prop :=
  X6_sum y1 S (fun r S1 => ∀ S2 : ZS, S2 = zw S1 82 0 (Int32.toInt64 r) → Q (0 : Int32) S2) (fun E S1 => (E = "java/lang/IllegalStateException" ∧ Q (1 : Int32) S1) ∨ (E = "java/lang/IndexOutOfBoundsException" ∧ Q (2 : Int32) S1))
set_option maxHeartbeats 4000000 in
set_option maxRecDepth 100000 in
theorem c_L_sum (l : Launch) (hlt : l.stackTraces = false) (D : va_G) (k : Nat → ClassId) (a : Nat → Nat) (hj : zDj a) (y1 : Int32) (S : ZS) (Q : Int32 → ZS → Prop) (hm : L_sum y1 S Q) (sz : Nat) : Met l yL_sum wsL_sum rm_L_sum (zPcX D k a [.ref (a 0), .int y1, .ref (a 82)] S sz) (va_Qi Q (zB D k a) (zA a sz)) 2 12 (zA a sz) := by
  refine va_MetW (cc := cL_sum) (maxL := 4) (ret := some .int) (hh := [(0, 9, 12, 13), (0, 9, 15, 25)]) (by decide) rfl ?_
  intro p e s m args below meth c s₁ B hml hv
  obtain ⟨rfl, hsz, hP, hK, hX⟩ := hv
  have hx := B.exec
  have hb := B.bytes
  have hr := B.returns
  have hts := atoms_spec (ws := wsL_sum) B.pre
  have hown : s.vm.findClass RL = some m.cls := findClass_of_methodNamed B.named
  have hlocks := B.notSynchronized
  subst hsz
  have hS : va_S (zA a s.heap.size) s.heap s.heap [] := va_S.rf
  have hF : CallFix p m c cL_sum 4 s _ wsL_sum RL := ⟨hx, hb, hml, hown, hts⟩
  have hxt : c.exceptionTable.toList = [{ startPc := 0, endPc := 9, handlerPc := 12, catchType := 13 }, { startPc := 0, endPc := 9, handlerPc := 15, catchType := 25 }] := vx_table (x := yL_law) B (hts _ (List.mem_of_getElem? (i := 0) rfl))
  have hl := lv_entry ([.ref (a 0), .int y1, .ref (a 82)]) (n := 4) (Nat.le_of_ble_eq_true rfl)
  rw [lg_entry_eq]
  generalize (lg_sl ([.ref (a 0), .int y1, .ref (a 82)]) ++ List.replicate (4 - (lg_sl ([.ref (a 0), .int y1, .ref (a 82)])).length) Slot.unset).toArray = ls at hl ⊢
  have hl : lv_has ls 4 [(0, .ref (a 0)), (1, .int y1), (2, .ref (a 82))] := hl
  unfold L_sum at hm
  refine lv_aload_n hx hb dL_sum_0 rfl (lv_at hl 2 rfl) ?_
  refine lv_iconst (v := (0 : Int32)) hx hb dL_sum_1 (by decide) ?_
  refine lv_aload_n hx hb dL_sum_2 rfl (lv_at hl 0 rfl) ?_
  refine lv_iload_n hx hb dL_sum_3 rfl (lv_at hl 1 rfl) ?_
  refine z_kVi (As := [.int y1]) (rest := [.int (0 : Int32), .ref (a 82)]) hF hK hX hP hS zO_0 rfl rfl (c_X6_sum l hlt D k a hj y1 S _ _ hm _) (cwV 1 hts gL_sum_X6_sum rfl rfl rfl (by decide +kernel) ⟨(Nat.le_of_ble_eq_true rfl), (Nat.le_of_ble_eq_true rfl)⟩) rfl hl.1 rfl (Nat.le_of_ble_eq_true rfl) dL_sum_4 ⟨(Nat.le_of_ble_eq_true rfl), (Nat.le_of_ble_eq_true rfl)⟩ (fun E S1 H locs q9 ce hm hP hS hce hcv hcl => ?_) (fun r S1 H locs hm hP hS => ?_)
  · rcases hm with ⟨rfl, hm⟩ | ⟨rfl, hm⟩
    · refine vx_catch hown [] { startPc := 0, endPc := 9, handlerPc := 12, catchType := 13 } [{ startPc := 0, endPc := 9, handlerPc := 15, catchType := 25 }] hxt (fun z hz => by cases hz) (by decide) (by decide) (hts _ (List.mem_of_getElem? (i := 1) rfl)) (va_Nw.use rfl (hX.2.2.1 (.castable "java/lang/IllegalStateException" "java/lang/IllegalStateException") (by decide))) hce hcv hcl ?_
      refine lv_astore_n (lv' := [(3, .ref q9), (0, .ref (a 0)), (1, .int y1), (2, .ref (a 82))]) hx hb dL_sum_12 rfl hl (by decide) rfl (fun ls hl => ?_)
      refine lv_iconst (v := (1 : Int32)) hx hb dL_sum_13 (by decide) ?_
      exact z_retiW hx hb hr hlocks hP hS (Nat.le_of_ble_eq_true rfl) (Nat.le_of_ble_eq_true rfl) hm dL_sum_14
    · refine vx_catch hown [{ startPc := 0, endPc := 9, handlerPc := 12, catchType := 13 }] { startPc := 0, endPc := 9, handlerPc := 15, catchType := 25 } [] hxt (fun z hz => by rw [List.mem_singleton.mp hz]; exact Or.inr ⟨by decide, "java/lang/IllegalStateException", hts _ (List.mem_of_getElem? (i := 1) rfl), hX.2.2.2.2 ("java/lang/IndexOutOfBoundsException", "java/lang/IllegalStateException") (by decide)⟩) (by decide) (by decide) (hts _ (List.mem_of_getElem? (i := 2) rfl)) (va_Nw.use rfl (hX.2.2.1 (.castable "java/lang/IndexOutOfBoundsException" "java/lang/IndexOutOfBoundsException") (by decide))) hce hcv hcl ?_
      refine lv_astore_n (lv' := [(3, .ref q9), (0, .ref (a 0)), (1, .int y1), (2, .ref (a 82))]) hx hb dL_sum_15 rfl hl (by decide) rfl (fun ls hl => ?_)
      refine lv_iconst (v := (2 : Int32)) hx hb dL_sum_16 (by decide) ?_
      exact z_retiW hx hb hr hlocks hP hS (Nat.le_of_ble_eq_true rfl) (Nat.le_of_ble_eq_true rfl) hm dL_sum_17
  · refine lv_i2l hx hb dL_sum_7 rfl ?_
    refine z_last hx hb hj hK hP hS zJ_82 (by unfold vp_in; decide) dL_sum_8 (fun H locs hP hS => ?_)
    have hm := hm _ rfl
    refine lv_goto (tgt := 18) hx hb dL_sum_9 (by decide) ?_
    refine lv_iconst (v := (0 : Int32)) hx hb dL_sum_18 (by decide) ?_
    exact z_retiW hx hb hr hlocks hP hS (Nat.le_of_ble_eq_true rfl) (Nat.le_of_ble_eq_true rfl) hm dL_sum_19
abbrev rm_L_price : Room := { frames := 8, cells := 2, slots := 12, locals := 132 }
def L_price (y1 : Int32) (S : ZS) (Q : Int32 → ZS → Prop) : Prop :=
  X6_price y1 S (fun r S1 => ∀ S2 : ZS, S2 = zw S1 82 0 (Int32.toInt64 r) → Q (0 : Int32) S2) (fun E S1 => (E = "java/lang/IllegalStateException" ∧ Q (1 : Int32) S1) ∨ (E = "java/lang/IndexOutOfBoundsException" ∧ Q (2 : Int32) S1))
set_option maxHeartbeats 4000000 in
set_option maxRecDepth 100000 in
theorem c_L_price (l : Launch) (hlt : l.stackTraces = false) (D : va_G) (k : Nat → ClassId) (a : Nat → Nat) (hj : zDj a) (y1 : Int32) (S : ZS) (Q : Int32 → ZS → Prop) (hm : L_price y1 S Q) (sz : Nat) : Met l yL_price wsL_price rm_L_price (zPcX D k a [.ref (a 0), .int y1, .ref (a 82)] S sz) (va_Qi Q (zB D k a) (zA a sz)) 2 12 (zA a sz) := by
  refine va_MetW (cc := cL_price) (maxL := 4) (ret := some .int) (hh := [(0, 9, 12, 13), (0, 9, 15, 25)]) (by decide) rfl ?_
  intro p e s m args below meth c s₁ B hml hv
  obtain ⟨rfl, hsz, hP, hK, hX⟩ := hv
  have hx := B.exec
  have hb := B.bytes
  have hr := B.returns
  have hts := atoms_spec (ws := wsL_price) B.pre
  have hown : s.vm.findClass RL = some m.cls := findClass_of_methodNamed B.named
  have hlocks := B.notSynchronized
  subst hsz
  have hS : va_S (zA a s.heap.size) s.heap s.heap [] := va_S.rf
  have hF : CallFix p m c cL_price 4 s _ wsL_price RL := ⟨hx, hb, hml, hown, hts⟩
  have hxt : c.exceptionTable.toList = [{ startPc := 0, endPc := 9, handlerPc := 12, catchType := 13 }, { startPc := 0, endPc := 9, handlerPc := 15, catchType := 25 }] := vx_table (x := yL_law) B (hts _ (List.mem_of_getElem? (i := 0) rfl))
  have hl := lv_entry ([.ref (a 0), .int y1, .ref (a 82)]) (n := 4) (Nat.le_of_ble_eq_true rfl)
  rw [lg_entry_eq]
  generalize (lg_sl ([.ref (a 0), .int y1, .ref (a 82)]) ++ List.replicate (4 - (lg_sl ([.ref (a 0), .int y1, .ref (a 82)])).length) Slot.unset).toArray = ls at hl ⊢
  have hl : lv_has ls 4 [(0, .ref (a 0)), (1, .int y1), (2, .ref (a 82))] := hl
  unfold L_price at hm
  refine lv_aload_n hx hb dL_price_0 rfl (lv_at hl 2 rfl) ?_
  refine lv_iconst (v := (0 : Int32)) hx hb dL_price_1 (by decide) ?_
  refine lv_aload_n hx hb dL_price_2 rfl (lv_at hl 0 rfl) ?_
  refine lv_iload_n hx hb dL_price_3 rfl (lv_at hl 1 rfl) ?_
  refine z_kVi (As := [.int y1]) (rest := [.int (0 : Int32), .ref (a 82)]) hF hK hX hP hS zO_0 rfl rfl (c_X6_price l hlt D k a hj y1 S _ _ hm _) (cwV 1 hts gL_price_X6_price rfl rfl rfl (by decide +kernel) ⟨(Nat.le_of_ble_eq_true rfl), (Nat.le_of_ble_eq_true rfl)⟩) rfl hl.1 rfl (Nat.le_of_ble_eq_true rfl) dL_price_4 ⟨(Nat.le_of_ble_eq_true rfl), (Nat.le_of_ble_eq_true rfl)⟩ (fun E S1 H locs q9 ce hm hP hS hce hcv hcl => ?_) (fun r S1 H locs hm hP hS => ?_)
  · rcases hm with ⟨rfl, hm⟩ | ⟨rfl, hm⟩
    · refine vx_catch hown [] { startPc := 0, endPc := 9, handlerPc := 12, catchType := 13 } [{ startPc := 0, endPc := 9, handlerPc := 15, catchType := 25 }] hxt (fun z hz => by cases hz) (by decide) (by decide) (hts _ (List.mem_of_getElem? (i := 1) rfl)) (va_Nw.use rfl (hX.2.2.1 (.castable "java/lang/IllegalStateException" "java/lang/IllegalStateException") (by decide))) hce hcv hcl ?_
      refine lv_astore_n (lv' := [(3, .ref q9), (0, .ref (a 0)), (1, .int y1), (2, .ref (a 82))]) hx hb dL_price_12 rfl hl (by decide) rfl (fun ls hl => ?_)
      refine lv_iconst (v := (1 : Int32)) hx hb dL_price_13 (by decide) ?_
      exact z_retiW hx hb hr hlocks hP hS (Nat.le_of_ble_eq_true rfl) (Nat.le_of_ble_eq_true rfl) hm dL_price_14
    · refine vx_catch hown [{ startPc := 0, endPc := 9, handlerPc := 12, catchType := 13 }] { startPc := 0, endPc := 9, handlerPc := 15, catchType := 25 } [] hxt (fun z hz => by rw [List.mem_singleton.mp hz]; exact Or.inr ⟨by decide, "java/lang/IllegalStateException", hts _ (List.mem_of_getElem? (i := 1) rfl), hX.2.2.2.2 ("java/lang/IndexOutOfBoundsException", "java/lang/IllegalStateException") (by decide)⟩) (by decide) (by decide) (hts _ (List.mem_of_getElem? (i := 2) rfl)) (va_Nw.use rfl (hX.2.2.1 (.castable "java/lang/IndexOutOfBoundsException" "java/lang/IndexOutOfBoundsException") (by decide))) hce hcv hcl ?_
      refine lv_astore_n (lv' := [(3, .ref q9), (0, .ref (a 0)), (1, .int y1), (2, .ref (a 82))]) hx hb dL_price_15 rfl hl (by decide) rfl (fun ls hl => ?_)
      refine lv_iconst (v := (2 : Int32)) hx hb dL_price_16 (by decide) ?_
      exact z_retiW hx hb hr hlocks hP hS (Nat.le_of_ble_eq_true rfl) (Nat.le_of_ble_eq_true rfl) hm dL_price_17
  · refine lv_i2l hx hb dL_price_7 rfl ?_
    refine z_last hx hb hj hK hP hS zJ_82 (by unfold vp_in; decide) dL_price_8 (fun H locs hP hS => ?_)
    have hm := hm _ rfl
    refine lv_goto (tgt := 18) hx hb dL_price_9 (by decide) ?_
    refine lv_iconst (v := (0 : Int32)) hx hb dL_price_18 (by decide) ?_
    exact z_retiW hx hb hr hlocks hP hS (Nat.le_of_ble_eq_true rfl) (Nat.le_of_ble_eq_true rfl) hm dL_price_19
abbrev rm_L_reduced : Room := { frames := 8, cells := 2, slots := 12, locals := 134 }
def L_reduced (y1 : Int32) (S : ZS) (Q : Int32 → ZS → Prop) : Prop :=
  X6_reduced y1 S (fun r S1 => ∀ S2 : ZS, S2 = zw S1 82 0 (Int32.toInt64 r) → Q (0 : Int32) S2) (fun E S1 => (E = "java/lang/IllegalStateException" ∧ Q (1 : Int32) S1) ∨ (E = "java/lang/IndexOutOfBoundsException" ∧ Q (2 : Int32) S1))
set_option maxHeartbeats 4000000 in
set_option maxRecDepth 100000 in
theorem c_L_reduced (l : Launch) (hlt : l.stackTraces = false) (D : va_G) (k : Nat → ClassId) (a : Nat → Nat) (hj : zDj a) (y1 : Int32) (S : ZS) (Q : Int32 → ZS → Prop) (hm : L_reduced y1 S Q) (sz : Nat) : Met l yL_reduced wsL_reduced rm_L_reduced (zPcX D k a [.ref (a 0), .int y1, .ref (a 82)] S sz) (va_Qi Q (zB D k a) (zA a sz)) 2 12 (zA a sz) := by
  refine va_MetW (cc := cL_reduced) (maxL := 4) (ret := some .int) (hh := [(0, 9, 12, 13), (0, 9, 15, 25)]) (by decide) rfl ?_
  intro p e s m args below meth c s₁ B hml hv
  obtain ⟨rfl, hsz, hP, hK, hX⟩ := hv
  have hx := B.exec
  have hb := B.bytes
  have hr := B.returns
  have hts := atoms_spec (ws := wsL_reduced) B.pre
  have hown : s.vm.findClass RL = some m.cls := findClass_of_methodNamed B.named
  have hlocks := B.notSynchronized
  subst hsz
  have hS : va_S (zA a s.heap.size) s.heap s.heap [] := va_S.rf
  have hF : CallFix p m c cL_reduced 4 s _ wsL_reduced RL := ⟨hx, hb, hml, hown, hts⟩
  have hxt : c.exceptionTable.toList = [{ startPc := 0, endPc := 9, handlerPc := 12, catchType := 13 }, { startPc := 0, endPc := 9, handlerPc := 15, catchType := 25 }] := vx_table (x := yL_law) B (hts _ (List.mem_of_getElem? (i := 0) rfl))
  have hl := lv_entry ([.ref (a 0), .int y1, .ref (a 82)]) (n := 4) (Nat.le_of_ble_eq_true rfl)
  rw [lg_entry_eq]
  generalize (lg_sl ([.ref (a 0), .int y1, .ref (a 82)]) ++ List.replicate (4 - (lg_sl ([.ref (a 0), .int y1, .ref (a 82)])).length) Slot.unset).toArray = ls at hl ⊢
  have hl : lv_has ls 4 [(0, .ref (a 0)), (1, .int y1), (2, .ref (a 82))] := hl
  unfold L_reduced at hm
  refine lv_aload_n hx hb dL_reduced_0 rfl (lv_at hl 2 rfl) ?_
  refine lv_iconst (v := (0 : Int32)) hx hb dL_reduced_1 (by decide) ?_
  refine lv_aload_n hx hb dL_reduced_2 rfl (lv_at hl 0 rfl) ?_
  refine lv_iload_n hx hb dL_reduced_3 rfl (lv_at hl 1 rfl) ?_
  refine z_kVi (As := [.int y1]) (rest := [.int (0 : Int32), .ref (a 82)]) hF hK hX hP hS zO_0 rfl rfl (c_X6_reduced l hlt D k a hj y1 S _ _ hm _) (cwV 1 hts gL_reduced_X6_reduced rfl rfl rfl (by decide +kernel) ⟨(Nat.le_of_ble_eq_true rfl), (Nat.le_of_ble_eq_true rfl)⟩) rfl hl.1 rfl (Nat.le_of_ble_eq_true rfl) dL_reduced_4 ⟨(Nat.le_of_ble_eq_true rfl), (Nat.le_of_ble_eq_true rfl)⟩ (fun E S1 H locs q9 ce hm hP hS hce hcv hcl => ?_) (fun r S1 H locs hm hP hS => ?_)
  · rcases hm with ⟨rfl, hm⟩ | ⟨rfl, hm⟩
    · refine vx_catch hown [] { startPc := 0, endPc := 9, handlerPc := 12, catchType := 13 } [{ startPc := 0, endPc := 9, handlerPc := 15, catchType := 25 }] hxt (fun z hz => by cases hz) (by decide) (by decide) (hts _ (List.mem_of_getElem? (i := 1) rfl)) (va_Nw.use rfl (hX.2.2.1 (.castable "java/lang/IllegalStateException" "java/lang/IllegalStateException") (by decide))) hce hcv hcl ?_
      refine lv_astore_n (lv' := [(3, .ref q9), (0, .ref (a 0)), (1, .int y1), (2, .ref (a 82))]) hx hb dL_reduced_12 rfl hl (by decide) rfl (fun ls hl => ?_)
      refine lv_iconst (v := (1 : Int32)) hx hb dL_reduced_13 (by decide) ?_
      exact z_retiW hx hb hr hlocks hP hS (Nat.le_of_ble_eq_true rfl) (Nat.le_of_ble_eq_true rfl) hm dL_reduced_14
    · refine vx_catch hown [{ startPc := 0, endPc := 9, handlerPc := 12, catchType := 13 }] { startPc := 0, endPc := 9, handlerPc := 15, catchType := 25 } [] hxt (fun z hz => by rw [List.mem_singleton.mp hz]; exact Or.inr ⟨by decide, "java/lang/IllegalStateException", hts _ (List.mem_of_getElem? (i := 1) rfl), hX.2.2.2.2 ("java/lang/IndexOutOfBoundsException", "java/lang/IllegalStateException") (by decide)⟩) (by decide) (by decide) (hts _ (List.mem_of_getElem? (i := 2) rfl)) (va_Nw.use rfl (hX.2.2.1 (.castable "java/lang/IndexOutOfBoundsException" "java/lang/IndexOutOfBoundsException") (by decide))) hce hcv hcl ?_
      refine lv_astore_n (lv' := [(3, .ref q9), (0, .ref (a 0)), (1, .int y1), (2, .ref (a 82))]) hx hb dL_reduced_15 rfl hl (by decide) rfl (fun ls hl => ?_)
      refine lv_iconst (v := (2 : Int32)) hx hb dL_reduced_16 (by decide) ?_
      exact z_retiW hx hb hr hlocks hP hS (Nat.le_of_ble_eq_true rfl) (Nat.le_of_ble_eq_true rfl) hm dL_reduced_17
  · refine lv_i2l hx hb dL_reduced_7 rfl ?_
    refine z_last hx hb hj hK hP hS zJ_82 (by unfold vp_in; decide) dL_reduced_8 (fun H locs hP hS => ?_)
    have hm := hm _ rfl
    refine lv_goto (tgt := 18) hx hb dL_reduced_9 (by decide) ?_
    refine lv_iconst (v := (0 : Int32)) hx hb dL_reduced_18 (by decide) ?_
    exact z_retiW hx hb hr hlocks hP hS (Nat.le_of_ble_eq_true rfl) (Nat.le_of_ble_eq_true rfl) hm dL_reduced_19
abbrev rm_L_proof : Room := { frames := 8, cells := 1, slots := 6, locals := 130 }
def L_proof (S : ZS) (Q : Int32 → ZS → Prop) : Prop :=
  X6_proof S (fun r S1 => ∀ S2 : ZS, S2 = zw S1 82 0 (Int32.toInt64 r) → Q (0 : Int32) S2) (fun E S1 => (E = "java/lang/IllegalStateException" ∧ Q (1 : Int32) S1))
set_option maxHeartbeats 4000000 in
set_option maxRecDepth 100000 in
theorem c_L_proof (l : Launch) (hlt : l.stackTraces = false) (D : va_G) (k : Nat → ClassId) (a : Nat → Nat) (hj : zDj a) (S : ZS) (Q : Int32 → ZS → Prop) (hm : L_proof  S Q) (sz : Nat) : Met l yL_proof wsL_proof rm_L_proof (zPcX D k a [.ref (a 0), .ref (a 82)] S sz) (va_Qi Q (zB D k a) (zA a sz)) 1 6 (zA a sz) := by
  refine va_MetW (cc := cL_proof) (maxL := 3) (ret := some .int) (hh := [(0, 8, 11, 13)]) (by decide) rfl ?_
  intro p e s m args below meth c s₁ B hml hv
  obtain ⟨rfl, hsz, hP, hK, hX⟩ := hv
  have hx := B.exec
  have hb := B.bytes
  have hr := B.returns
  have hts := atoms_spec (ws := wsL_proof) B.pre
  have hown : s.vm.findClass RL = some m.cls := findClass_of_methodNamed B.named
  have hlocks := B.notSynchronized
  subst hsz
  have hS : va_S (zA a s.heap.size) s.heap s.heap [] := va_S.rf
  have hF : CallFix p m c cL_proof 3 s _ wsL_proof RL := ⟨hx, hb, hml, hown, hts⟩
  have hxt : c.exceptionTable.toList = [{ startPc := 0, endPc := 8, handlerPc := 11, catchType := 13 }] := vx_table (x := yL_law) B (hts _ (List.mem_of_getElem? (i := 0) rfl))
  have hl := lv_entry ([.ref (a 0), .ref (a 82)]) (n := 3) (Nat.le_of_ble_eq_true rfl)
  rw [lg_entry_eq]
  generalize (lg_sl ([.ref (a 0), .ref (a 82)]) ++ List.replicate (3 - (lg_sl ([.ref (a 0), .ref (a 82)])).length) Slot.unset).toArray = ls at hl ⊢
  have hl : lv_has ls 3 [(0, .ref (a 0)), (1, .ref (a 82))] := hl
  unfold L_proof at hm
  refine lv_aload_n hx hb dL_proof_0 rfl (lv_at hl 1 rfl) ?_
  refine lv_iconst (v := (0 : Int32)) hx hb dL_proof_1 (by decide) ?_
  refine lv_aload_n hx hb dL_proof_2 rfl (lv_at hl 0 rfl) ?_
  refine z_kVi (As := []) (rest := [.int (0 : Int32), .ref (a 82)]) hF hK hX hP hS zO_0 rfl rfl (c_X6_proof l hlt D k a hj  S _ _ hm _) (cwV 0 hts gL_proof_X6_proof rfl rfl rfl (by decide +kernel) ⟨(Nat.le_of_ble_eq_true rfl), (Nat.le_of_ble_eq_true rfl)⟩) rfl hl.1 rfl (Nat.le_of_ble_eq_true rfl) dL_proof_3 ⟨(Nat.le_of_ble_eq_true rfl), (Nat.le_of_ble_eq_true rfl)⟩ (fun E S1 H locs q9 ce hm hP hS hce hcv hcl => ?_) (fun r S1 H locs hm hP hS => ?_)
  · obtain ⟨rfl, hm⟩ := hm
    refine vx_catch hown [] { startPc := 0, endPc := 8, handlerPc := 11, catchType := 13 } [] hxt (fun z hz => by cases hz) (by decide) (by decide) (hts _ (List.mem_of_getElem? (i := 1) rfl)) (va_Nw.use rfl (hX.2.2.1 (.castable "java/lang/IllegalStateException" "java/lang/IllegalStateException") (by decide))) hce hcv hcl ?_
    refine lv_astore_n (lv' := [(2, .ref q9), (0, .ref (a 0)), (1, .ref (a 82))]) hx hb dL_proof_11 rfl hl (by decide) rfl (fun ls hl => ?_)
    refine lv_iconst (v := (1 : Int32)) hx hb dL_proof_12 (by decide) ?_
    exact z_retiW hx hb hr hlocks hP hS (Nat.le_of_ble_eq_true rfl) (Nat.le_of_ble_eq_true rfl) hm dL_proof_13
  · refine lv_i2l hx hb dL_proof_6 rfl ?_
    refine z_last hx hb hj hK hP hS zJ_82 (by unfold vp_in; decide) dL_proof_7 (fun H locs hP hS => ?_)
    have hm := hm _ rfl
    refine lv_goto (tgt := 14) hx hb dL_proof_8 (by decide) ?_
    refine lv_iconst (v := (0 : Int32)) hx hb dL_proof_14 (by decide) ?_
    exact z_retiW hx hb hr hlocks hP hS (Nat.le_of_ble_eq_true rfl) (Nat.le_of_ble_eq_true rfl) hm dL_proof_15
abbrev rm_L_side : Room := { frames := 8, cells := 1, slots := 6, locals := 130 }
def L_side (S : ZS) (Q : Int32 → ZS → Prop) : Prop :=
  X6_side S (fun r S1 => ∀ S2 : ZS, S2 = zw S1 82 0 (Int32.toInt64 r) → Q (0 : Int32) S2) (fun E S1 => (E = "java/lang/IllegalStateException" ∧ Q (1 : Int32) S1))
set_option maxHeartbeats 4000000 in
set_option maxRecDepth 100000 in
theorem c_L_side (l : Launch) (hlt : l.stackTraces = false) (D : va_G) (k : Nat → ClassId) (a : Nat → Nat) (hj : zDj a) (S : ZS) (Q : Int32 → ZS → Prop) (hm : L_side  S Q) (sz : Nat) : Met l yL_side wsL_side rm_L_side (zPcX D k a [.ref (a 0), .ref (a 82)] S sz) (va_Qi Q (zB D k a) (zA a sz)) 1 6 (zA a sz) := by
  refine va_MetW (cc := cL_side) (maxL := 3) (ret := some .int) (hh := [(0, 8, 11, 13)]) (by decide) rfl ?_
  intro p e s m args below meth c s₁ B hml hv
  obtain ⟨rfl, hsz, hP, hK, hX⟩ := hv
  have hx := B.exec
  have hb := B.bytes
  have hr := B.returns
  have hts := atoms_spec (ws := wsL_side) B.pre
  have hown : s.vm.findClass RL = some m.cls := findClass_of_methodNamed B.named
  have hlocks := B.notSynchronized
  subst hsz
  have hS : va_S (zA a s.heap.size) s.heap s.heap [] := va_S.rf
  have hF : CallFix p m c cL_side 3 s _ wsL_side RL := ⟨hx, hb, hml, hown, hts⟩
  have hxt : c.exceptionTable.toList = [{ startPc := 0, endPc := 8, handlerPc := 11, catchType := 13 }] := vx_table (x := yL_law) B (hts _ (List.mem_of_getElem? (i := 0) rfl))
  have hl := lv_entry ([.ref (a 0), .ref (a 82)]) (n := 3) (Nat.le_of_ble_eq_true rfl)
  rw [lg_entry_eq]
  generalize (lg_sl ([.ref (a 0), .ref (a 82)]) ++ List.replicate (3 - (lg_sl ([.ref (a 0), .ref (a 82)])).length) Slot.unset).toArray = ls at hl ⊢
  have hl : lv_has ls 3 [(0, .ref (a 0)), (1, .ref (a 82))] := hl
  unfold L_side at hm
  refine lv_aload_n hx hb dL_side_0 rfl (lv_at hl 1 rfl) ?_
  refine lv_iconst (v := (0 : Int32)) hx hb dL_side_1 (by decide) ?_
  refine lv_aload_n hx hb dL_side_2 rfl (lv_at hl 0 rfl) ?_
  refine z_kVi (As := []) (rest := [.int (0 : Int32), .ref (a 82)]) hF hK hX hP hS zO_0 rfl rfl (c_X6_side l hlt D k a hj  S _ _ hm _) (cwV 0 hts gL_side_X6_side rfl rfl rfl (by decide +kernel) ⟨(Nat.le_of_ble_eq_true rfl), (Nat.le_of_ble_eq_true rfl)⟩) rfl hl.1 rfl (Nat.le_of_ble_eq_true rfl) dL_side_3 ⟨(Nat.le_of_ble_eq_true rfl), (Nat.le_of_ble_eq_true rfl)⟩ (fun E S1 H locs q9 ce hm hP hS hce hcv hcl => ?_) (fun r S1 H locs hm hP hS => ?_)
  · obtain ⟨rfl, hm⟩ := hm
    refine vx_catch hown [] { startPc := 0, endPc := 8, handlerPc := 11, catchType := 13 } [] hxt (fun z hz => by cases hz) (by decide) (by decide) (hts _ (List.mem_of_getElem? (i := 1) rfl)) (va_Nw.use rfl (hX.2.2.1 (.castable "java/lang/IllegalStateException" "java/lang/IllegalStateException") (by decide))) hce hcv hcl ?_
    refine lv_astore_n (lv' := [(2, .ref q9), (0, .ref (a 0)), (1, .ref (a 82))]) hx hb dL_side_11 rfl hl (by decide) rfl (fun ls hl => ?_)
    refine lv_iconst (v := (1 : Int32)) hx hb dL_side_12 (by decide) ?_
    exact z_retiW hx hb hr hlocks hP hS (Nat.le_of_ble_eq_true rfl) (Nat.le_of_ble_eq_true rfl) hm dL_side_13
  · refine lv_i2l hx hb dL_side_6 rfl ?_
    refine z_last hx hb hj hK hP hS zJ_82 (by unfold vp_in; decide) dL_side_7 (fun H locs hP hS => ?_)
    have hm := hm _ rfl
    refine lv_goto (tgt := 14) hx hb dL_side_8 (by decide) ?_
    refine lv_iconst (v := (0 : Int32)) hx hb dL_side_14 (by decide) ?_
    exact z_retiW hx hb hr hlocks hP hS (Nat.le_of_ble_eq_true rfl) (Nat.le_of_ble_eq_true rfl) hm dL_side_15
