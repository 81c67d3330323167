abbrev rm_X4_startAlone : Room := { frames := 0, cells := 0, slots := 0, locals := 0 }
def X4_startAlone_b33 (S : ZS) (Q : ZS → Prop) : Prop :=
  Q S
def X4_startAlone_B2 (x1 : Int32) (S : ZS) (Q : ZS → Prop) (k2 : Int32 × ZS → Prop) : Prop :=
  ((S.1 1 1) ≤ x1 → X4_startAlone_b33 S Q) ∧ (¬ (S.1 1 1) ≤ x1 → vp_in x1 8 ∧ ∀ S_19 : ZS, S_19 = zu S 22 (x1).toNatClampNeg x1 → vp_in x1 8 ∧ ∀ S_26 : ZS, S_26 = zu S_19 23 (x1).toNatClampNeg (1 : Int32) → ∀ x1_27 : Int32, x1_27 = x1 + (1 : Int32) → k2 (x1_27, S_26))
def X4_startAlone_L2 (Q : ZS → Prop) : (Int32 × ZS) → ((Int32 × ZS) → Prop) → Prop := fun st k2 => X4_startAlone_B2 st.1 st.2 Q k2
def X4_startAlone (S : ZS) (Q : ZS → Prop) : Prop :=
  zl (X4_startAlone_L2 Q) ((0 : Int32), S)
set_option maxHeartbeats 4000000 in
set_option maxRecDepth 100000 in
theorem c_X4_startAlone (l : Launch) (D : va_G) (k : Nat → ClassId) (a : Nat → Nat) (hj : zDj a) (S : ZS) (Q : ZS → Prop) (hm : X4_startAlone S Q) (sz : Nat) : Met l yX4_startAlone wsX4_startAlone rm_X4_startAlone (zPc D k a [.ref (a 2)] S sz) (va_Qv Q (zB D k a) (zA a sz)) 0 0 (zA a sz) := by
  refine Met.ofW (cc := cX4_startAlone) (maxL := 2) (ret := none) (by decide) rfl ?_
  intro p e s m args below meth c s₁ B hml hv
  obtain ⟨rfl, hsz, hP, hK⟩ := hv
  have hx := B.exec
  have hb := B.bytes
  have hr := B.returns
  have hts := atoms_spec (ws := wsX4_startAlone) B.pre
  have hown : s.vm.findClass RX4 = some m.cls := findClass_of_methodNamed B.named
  have hlocks := B.notSynchronized
  subst hsz
  have hS : va_S (zA a s.heap.size) s.heap s.heap [] := va_S.rf
  have hF : CallFix p m c cX4_startAlone 2 s _ wsX4_startAlone RX4 := ⟨hx, hb, hml, hown, hts⟩
  have i4 : ∀ w ∈ wsX40, w ∈ wsX4_startAlone := fun _ h => (List.mem_cons_of_mem _ (List.mem_append_left _ (List.mem_append_right _ h)))
  have i5 : ∀ w ∈ wsX50, w ∈ wsX4_startAlone := fun _ h => (List.mem_cons_of_mem _ (List.mem_append_right _ h))
  have hl := lv_entry ([.ref (a 2)]) (n := 2) (Nat.le_of_ble_eq_true rfl)
  rw [lg_entry_eq]
  generalize (lg_sl ([.ref (a 2)]) ++ List.replicate (2 - (lg_sl ([.ref (a 2)])).length) Slot.unset).toArray = ls at hl ⊢
  have hl : lv_has ls 2 [(0, .ref (a 2))] := hl
  have b33 : ∀ (S : ZS) (H : Heap) (locs : List Loc) (ls : Array Slot), X4_startAlone_b33 S Q → va_P D vwCl (zWS k a S) H → va_S (zA a s.heap.size) s.heap H locs → lv_has ls 2 [(0, .ref (a 2))] → zWv p l e (headSpec wsX4_startAlone rm_X4_startAlone).room s m ([.ref (a 2)] : List Value) below meth c D k a Q H locs (F0 m 33 ls []) := by
    intro S H locs ls hm hP hS hl
    unfold X4_startAlone_b33 at hm
    exact z_retv hx hb hr hlocks hP hS hm dX4_startAlone_33
  have L2 : ∀ (n : Nat) (x1 : Int32) (S : ZS) (H : Heap) (locs : List Loc) (ls : Array Slot), zn (X4_startAlone_L2 Q) n (x1, S) → va_P D vwCl (zWS k a S) H → va_S (zA a s.heap.size) s.heap H locs → lv_has ls 2 [(0, .ref (a 2)), (1, .int x1)] → zWv p l e (headSpec wsX4_startAlone rm_X4_startAlone).room s m ([.ref (a 2)] : List Value) below meth c D k a Q H locs (F0 m 2 ls []) := by
    intro n
    induction n with
    | zero =>
      intro x1 S H locs ls hm
      exact hm.elim
    | succ n ih2 =>
      intro x1 S H locs ls hm hP hS hl
      have hm : X4_startAlone_B2 x1 S Q (zn (X4_startAlone_L2 Q) n) := hm
      generalize zn (X4_startAlone_L2 Q) n = k2 at hm ih2
      unfold X4_startAlone_B2 at hm
      refine lv_iload_n hx hb dX4_startAlone_2 rfl (lv_at hl 1 rfl) ?_
      refine lv_aload_n hx hb dX4_startAlone_3 rfl (lv_at hl 0 rfl) ?_
      refine zg_4_whole hx hb hts i4 hown hK hP (hts _ (List.mem_of_getElem? (i := 1) rfl)) dX4_startAlone_4 ?_
      refine zg_5_rows hx hb hts i5 hown hK hP (hts _ (List.mem_of_getElem? (i := 2) rfl)) dX4_startAlone_7 ?_
      refine lv_icmp_ge (tgt := 33) hx hb dX4_startAlone_10 (by decide) (fun c_10 => ?_) (fun c_10 => ?_)
      · have hm := hm.1 c_10
        exact b33  S _ _ _ hm hP hS (lv_sub hl [0] rfl)
      · have hm := hm.2 c_10
        refine lv_aload_n hx hb dX4_startAlone_13 rfl (lv_at hl 0 rfl) ?_
        refine zg_4_leastRow hx hb hts i4 hown hK hP (hts _ (List.mem_of_getElem? (i := 3) rfl)) dX4_startAlone_14 ?_
        refine lv_iload_n hx hb dX4_startAlone_17 rfl (lv_at hl 1 rfl) ?_
        refine lv_iload_n hx hb dX4_startAlone_18 rfl (lv_at hl 1 rfl) ?_
        obtain ⟨h_19, hm⟩ := hm
        refine z_iast hx hb hj hK hP hS zI_22 h_19 dX4_startAlone_19 (fun H locs hP hS => ?_)
        obtain ⟨S_19, eS_19⟩ : ∃ z : ZS, z = zu S 22 (x1).toNatClampNeg x1 := ⟨_, rfl⟩
        rw [← eS_19] at hP
        have hm := hm S_19 eS_19
        refine lv_aload_n hx hb dX4_startAlone_20 rfl (lv_at hl 0 rfl) ?_
        refine zg_4_signs hx hb hts i4 hown hK hP (hts _ (List.mem_of_getElem? (i := 4) rfl)) dX4_startAlone_21 ?_
        refine lv_iload_n hx hb dX4_startAlone_24 rfl (lv_at hl 1 rfl) ?_
        refine lv_iconst (v := (1 : Int32)) hx hb dX4_startAlone_25 (by decide) ?_
        obtain ⟨h_26, hm⟩ := hm
        refine z_iast hx hb hj hK hP hS zI_23 h_26 dX4_startAlone_26 (fun H locs hP hS => ?_)
        obtain ⟨S_26, eS_26⟩ : ∃ z : ZS, z = zu S_19 23 (x1).toNatClampNeg (1 : Int32) := ⟨_, rfl⟩
        rw [← eS_26] at hP
        have hm := hm S_26 eS_26
        obtain ⟨x1_27, ex1_27⟩ : ∃ y : Int32, y = x1 + (1 : Int32) := ⟨_, rfl⟩
        have hm := hm x1_27 ex1_27
        refine lv_iinc (v := x1_27) (lv' := [(1, .int x1_27), (0, .ref (a 2))]) hx hb dX4_startAlone_27 hl (k := 1) rfl (by rw [ex1_27]; rfl) (by decide) rfl (fun ls hl => ?_)
        refine lv_goto (tgt := 2) hx hb dX4_startAlone_30 (by decide) ?_
        exact ih2 x1_27 S_26 _ _ _ hm hP hS (lv_sub hl [1, 0] rfl)
  unfold X4_startAlone at hm
  refine lv_iconst (v := (0 : Int32)) hx hb dX4_startAlone_0 (by decide) ?_
  refine lv_istore_n (lv' := [(1, .int (0 : Int32)), (0, .ref (a 2))]) hx hb dX4_startAlone_1 rfl hl (by decide) rfl (fun ls hl => ?_)
  obtain ⟨n2, hm⟩ := hm
  exact L2 n2 (0 : Int32) S _ _ _ hm hP hS (lv_sub hl [1, 0] rfl)

abbrev rm_X4_join : Room := { frames := 1, cells := 0, slots := 0, locals := 21 }
def X4_join_b95 (S : ZS) (Q : ZS → Prop) : Prop :=
  Q S
def X4_join_b89 (x3 : Int32) (x4 : Int32) (x5 : Int32) (x6 : Int32) (S : ZS) (Q : ZS → Prop) (k45 : Int32 × ZS → Prop) : Prop :=
  ∀ x6_89 : Int32, x6_89 = x6 + (1 : Int32) → k45 (x6_89, S)
def X4_join_B45 (x3 : Int32) (x4 : Int32) (x5 : Int32) (x6 : Int32) (S : ZS) (Q : ZS → Prop) (k45 : Int32 × ZS → Prop) : Prop :=
  ((S.1 1 1) ≤ x6 → X4_join_b95 S Q) ∧ (¬ (S.1 1 1) ≤ x6 → vp_in x6 8 ∧ ((S.1 22 (x6).toNatClampNeg) = x5 → vp_in x6 8 ∧ ∀ S_77 : ZS, S_77 = zu S 22 (x6).toNatClampNeg x4 → vp_in x6 8 ∧ vp_in x6 8 ∧ ∀ S_88 : ZS, S_88 = zu S_77 23 (x6).toNatClampNeg ((S_77.1 23 (x6).toNatClampNeg) * x3) → X4_join_b89 x3 x4 x5 x6 S_88 Q k45) ∧ (¬ (S.1 22 (x6).toNatClampNeg) = x5 → X4_join_b89 x3 x4 x5 x6 S Q k45))
def X4_join_L45 (x3 : Int32) (x4 : Int32) (x5 : Int32) (Q : ZS → Prop) : (Int32 × ZS) → ((Int32 × ZS) → Prop) → Prop := fun st k45 => X4_join_B45 x3 x4 x5 st.1 st.2 Q k45
def X4_join (y1 : Int32) (y2 : Int32) (y3 : Int32) (S : ZS) (Q : ZS → Prop) : Prop :=
  vp_in y1 8 ∧ vp_in y2 8 ∧ ∀ x4_15 : Int32, x4_15 = (if (S.1 22 (y2).toNatClampNeg) < (S.1 22 (y1).toNatClampNeg) then (S.1 22 (y2).toNatClampNeg) else (S.1 22 (y1).toNatClampNeg)) → vp_in y1 8 ∧ vp_in y2 8 ∧ ∀ x5_32 : Int32, x5_32 = (if (S.1 22 (y1).toNatClampNeg) < (S.1 22 (y2).toNatClampNeg) then (S.1 22 (y2).toNatClampNeg) else (S.1 22 (y1).toNatClampNeg)) → (x4_15 = x5_32 → Q S) ∧ (¬ x4_15 = x5_32 → zl (X4_join_L45 y3 x4_15 x5_32 Q) ((0 : Int32), S))
set_option maxHeartbeats 4000000 in
set_option maxRecDepth 100000 in
theorem c_X4_join (l : Launch) (D : va_G) (k : Nat → ClassId) (a : Nat → Nat) (hj : zDj a) (y1 : Int32) (y2 : Int32) (y3 : Int32) (S : ZS) (Q : ZS → Prop) (hm : X4_join y1 y2 y3 S Q) (sz : Nat) : Met l yX4_join wsX4_join rm_X4_join (zPc D k a [.ref (a 2), .int y1, .int y2, .int y3] S sz) (va_Qv Q (zB D k a) (zA a sz)) 0 0 (zA a sz) := by
  refine Met.ofW (cc := cX4_join) (maxL := 7) (ret := none) (by decide) rfl ?_
  intro p e s m args below meth c s₁ B hml hv
  obtain ⟨rfl, hsz, hP, hK⟩ := hv
  have hx := B.exec
  have hb := B.bytes
  have hr := B.returns
  have hts := atoms_spec (ws := wsX4_join) B.pre
  have hown : s.vm.findClass RX4 = some m.cls := findClass_of_methodNamed B.named
  have hlocks := B.notSynchronized
  subst hsz
  have hS : va_S (zA a s.heap.size) s.heap s.heap [] := va_S.rf
  have hF : CallFix p m c cX4_join 7 s _ wsX4_join RX4 := ⟨hx, hb, hml, hown, hts⟩
  have i4 : ∀ w ∈ wsX40, w ∈ wsX4_join := fun _ h => (List.mem_cons_of_mem _ (List.mem_append_left _ (List.mem_append_right _ h)))
  have i5 : ∀ w ∈ wsX50, w ∈ wsX4_join := fun _ h => (List.mem_cons_of_mem _ (List.mem_append_right _ h))
  have hl := lv_entry ([.ref (a 2), .int y1, .int y2, .int y3]) (n := 7) (Nat.le_of_ble_eq_true rfl)
  rw [lg_entry_eq]
  generalize (lg_sl ([.ref (a 2), .int y1, .int y2, .int y3]) ++ List.replicate (7 - (lg_sl ([.ref (a 2), .int y1, .int y2, .int y3])).length) Slot.unset).toArray = ls at hl ⊢
  have hl : lv_has ls 7 [(0, .ref (a 2)), (1, .int y1), (2, .int y2), (3, .int y3)] := hl
  have b95 : ∀ (S : ZS) (H : Heap) (locs : List Loc) (ls : Array Slot), X4_join_b95 S Q → va_P D vwCl (zWS k a S) H → va_S (zA a s.heap.size) s.heap H locs → lv_has ls 7 [(0, .ref (a 2))] → zWv p l e (headSpec wsX4_join rm_X4_join).room s m ([.ref (a 2), .int y1, .int y2, .int y3] : List Value) below meth c D k a Q H locs (F0 m 95 ls []) := by
    intro S H locs ls hm hP hS hl
    unfold X4_join_b95 at hm
    exact z_retv hx hb hr hlocks hP hS hm dX4_join_95
  have L45 : ∀ (x3 : Int32) (x4 : Int32) (x5 : Int32) (n : Nat) (x6 : Int32) (S : ZS) (H : Heap) (locs : List Loc) (ls : Array Slot), zn (X4_join_L45 x3 x4 x5 Q) n (x6, S) → va_P D vwCl (zWS k a S) H → va_S (zA a s.heap.size) s.heap H locs → lv_has ls 7 [(0, .ref (a 2)), (3, .int x3), (4, .int x4), (5, .int x5), (6, .int x6)] → zWv p l e (headSpec wsX4_join rm_X4_join).room s m ([.ref (a 2), .int y1, .int y2, .int y3] : List Value) below meth c D k a Q H locs (F0 m 45 ls []) := by
    intro x3 x4 x5 n
    induction n with
    | zero =>
      intro x6 S H locs ls hm
      exact hm.elim
    | succ n ih45 =>
      intro x6 S H locs ls hm hP hS hl
      have hm : X4_join_B45 x3 x4 x5 x6 S Q (zn (X4_join_L45 x3 x4 x5 Q) n) := hm
      generalize zn (X4_join_L45 x3 x4 x5 Q) n = k45 at hm ih45
      unfold X4_join_B45 at hm
      have b89 : ∀ (x6 : Int32) (S : ZS) (H : Heap) (locs : List Loc) (ls : Array Slot), X4_join_b89 x3 x4 x5 x6 S Q k45 → va_P D vwCl (zWS k a S) H → va_S (zA a s.heap.size) s.heap H locs → lv_has ls 7 [(0, .ref (a 2)), (3, .int x3), (4, .int x4), (5, .int x5), (6, .int x6)] → zWv p l e (headSpec wsX4_join rm_X4_join).room s m ([.ref (a 2), .int y1, .int y2, .int y3] : List Value) below meth c D k a Q H locs (F0 m 89 ls []) := by
        intro x6 S H locs ls hm hP hS hl
        unfold X4_join_b89 at hm
        obtain ⟨x6_89, ex6_89⟩ : ∃ y : Int32, y = x6 + (1 : Int32) := ⟨_, rfl⟩
        have hm := hm x6_89 ex6_89
        refine lv_iinc (v := x6_89) (lv' := [(6, .int x6_89), (0, .ref (a 2)), (3, .int x3), (4, .int x4), (5, .int x5)]) hx hb dX4_join_89 hl (k := 4) rfl (by rw [ex6_89]; rfl) (by decide) rfl (fun ls hl => ?_)
        refine lv_goto (tgt := 45) hx hb dX4_join_92 (by decide) ?_
        exact ih45 x6_89 S _ _ _ hm hP hS (lv_sub hl [1, 2, 3, 4, 0] rfl)
      refine lv_iload hx hb dX4_join_45 (lv_at hl 4 rfl) ?_
      refine lv_aload_n hx hb dX4_join_47 rfl (lv_at hl 0 rfl) ?_
      refine zg_4_whole hx hb hts i4 hown hK hP (hts _ (List.mem_of_getElem? (i := 9) rfl)) dX4_join_48 ?_
      refine zg_5_rows hx hb hts i5 hown hK hP (hts _ (List.mem_of_getElem? (i := 10) rfl)) dX4_join_51 ?_
      refine lv_icmp_ge (tgt := 95) hx hb dX4_join_54 (by decide) (fun c_54 => ?_) (fun c_54 => ?_)
      · have hm := hm.1 c_54
        exact b95  S _ _ _ hm hP hS (lv_sub hl [0] rfl)
      · have hm := hm.2 c_54
        refine lv_aload_n hx hb dX4_join_57 rfl (lv_at hl 0 rfl) ?_
        refine zg_4_leastRow hx hb hts i4 hown hK hP (hts _ (List.mem_of_getElem? (i := 1) rfl)) dX4_join_58 ?_
        refine lv_iload hx hb dX4_join_61 (lv_at hl 4 rfl) ?_
        obtain ⟨h_63, hm⟩ := hm
        refine z_iald hx hb hK hP zI_22 h_63 dX4_join_63 ?_
        refine lv_iload hx hb dX4_join_64 (lv_at hl 3 rfl) ?_
        refine lv_icmp_ne (tgt := 89) hx hb dX4_join_66 (by decide) (fun c_66 => ?_) (fun c_66 => ?_)
        · have hm := hm.2 c_66
          exact b89 x6 S _ _ _ hm hP hS (lv_sub hl [0, 1, 2, 3, 4] rfl)
        · have hm := hm.1 c_66
          refine lv_aload_n hx hb dX4_join_69 rfl (lv_at hl 0 rfl) ?_
          refine zg_4_leastRow hx hb hts i4 hown hK hP (hts _ (List.mem_of_getElem? (i := 1) rfl)) dX4_join_70 ?_
          refine lv_iload hx hb dX4_join_73 (lv_at hl 4 rfl) ?_
          refine lv_iload hx hb dX4_join_75 (lv_at hl 2 rfl) ?_
          obtain ⟨h_77, hm⟩ := hm
          refine z_iast hx hb hj hK hP hS zI_22 h_77 dX4_join_77 (fun H locs hP hS => ?_)
          obtain ⟨S_77, eS_77⟩ : ∃ z : ZS, z = zu S 22 (x6).toNatClampNeg x4 := ⟨_, rfl⟩
          rw [← eS_77] at hP
          have hm := hm S_77 eS_77
          refine lv_aload_n hx hb dX4_join_78 rfl (lv_at hl 0 rfl) ?_
          refine zg_4_signs hx hb hts i4 hown hK hP (hts _ (List.mem_of_getElem? (i := 11) rfl)) dX4_join_79 ?_
          refine lv_iload hx hb dX4_join_82 (lv_at hl 4 rfl) ?_
          refine lv_dup2_11 hx hb dX4_join_84 rfl rfl ?_
          obtain ⟨h_85, hm⟩ := hm
          refine z_iald hx hb hK hP zI_23 h_85 dX4_join_85 ?_
          refine lv_iload_n hx hb dX4_join_86 rfl (lv_at hl 1 rfl) ?_
          refine lv_imul hx hb dX4_join_87 ?_
          obtain ⟨h_88, hm⟩ := hm
          refine z_iast hx hb hj hK hP hS zI_23 h_88 dX4_join_88 (fun H locs hP hS => ?_)
          obtain ⟨S_88, eS_88⟩ : ∃ z : ZS, z = zu S_77 23 (x6).toNatClampNeg ((S_77.1 23 (x6).toNatClampNeg) * x3) := ⟨_, rfl⟩
          rw [← eS_88] at hP
          have hm := hm S_88 eS_88
          exact b89 x6 S_88 _ _ _ hm hP hS (lv_sub hl [0, 1, 2, 3, 4] rfl)
  unfold X4_join at hm
  refine lv_aload_n hx hb dX4_join_0 rfl (lv_at hl 0 rfl) ?_
  refine zg_4_leastRow hx hb hts i4 hown hK hP (hts _ (List.mem_of_getElem? (i := 1) rfl)) dX4_join_1 ?_
  refine lv_iload_n hx hb dX4_join_4 rfl (lv_at hl 1 rfl) ?_
  obtain ⟨h_5, hm⟩ := hm
  refine z_iald hx hb hK hP zI_22 h_5 dX4_join_5 ?_
  refine lv_aload_n hx hb dX4_join_6 rfl (lv_at hl 0 rfl) ?_
  refine zg_4_leastRow hx hb hts i4 hown hK hP (hts _ (List.mem_of_getElem? (i := 1) rfl)) dX4_join_7 ?_
  refine lv_iload_n hx hb dX4_join_10 rfl (lv_at hl 2 rfl) ?_
  obtain ⟨h_11, hm⟩ := hm
  refine z_iald hx hb hK hP zI_22 h_11 dX4_join_11 ?_
  refine va_mmin hx hb (hml.trans hl.1.symm) hown (hts _ (List.mem_of_getElem? (i := 2) rfl)) (hts _ (List.mem_of_getElem? (i := 3) rfl)) (hts _ (List.mem_of_getElem? (i := 4) rfl)) (hts _ (List.mem_of_getElem? (i := 5) rfl)) (Nat.le_of_ble_eq_true rfl) (Nat.le_of_ble_eq_true rfl) (Nat.zero_le _) (Nat.zero_le _) dX4_join_12 ?_
  refine lv_topi (fun x4_15 ex4_15 => ?_)
  have hm := hm x4_15 ex4_15
  refine lv_istore (lv' := [(4, .int x4_15), (0, .ref (a 2)), (1, .int y1), (2, .int y2), (3, .int y3)]) hx hb dX4_join_15 hl (by decide) rfl (fun ls hl => ?_)
  refine lv_aload_n hx hb dX4_join_17 rfl (lv_at hl 1 rfl) ?_
  refine zg_4_leastRow hx hb hts i4 hown hK hP (hts _ (List.mem_of_getElem? (i := 1) rfl)) dX4_join_18 ?_
  refine lv_iload_n hx hb dX4_join_21 rfl (lv_at hl 2 rfl) ?_
  obtain ⟨h_22, hm⟩ := hm
  refine z_iald hx hb hK hP zI_22 h_22 dX4_join_22 ?_
  refine lv_aload_n hx hb dX4_join_23 rfl (lv_at hl 1 rfl) ?_
  refine zg_4_leastRow hx hb hts i4 hown hK hP (hts _ (List.mem_of_getElem? (i := 1) rfl)) dX4_join_24 ?_
  refine lv_iload_n hx hb dX4_join_27 rfl (lv_at hl 3 rfl) ?_
  obtain ⟨h_28, hm⟩ := hm
  refine z_iald hx hb hK hP zI_22 h_28 dX4_join_28 ?_
  refine va_mmax hx hb (hml.trans hl.1.symm) hown (hts _ (List.mem_of_getElem? (i := 6) rfl)) (hts _ (List.mem_of_getElem? (i := 7) rfl)) (hts _ (List.mem_of_getElem? (i := 4) rfl)) (hts _ (List.mem_of_getElem? (i := 8) rfl)) (Nat.le_of_ble_eq_true rfl) (Nat.le_of_ble_eq_true rfl) (Nat.zero_le _) (Nat.zero_le _) dX4_join_29 ?_
  refine lv_topi (fun x5_32 ex5_32 => ?_)
  have hm := hm x5_32 ex5_32
  refine lv_istore (lv' := [(5, .int x5_32), (4, .int x4_15), (0, .ref (a 2)), (1, .int y1), (2, .int y2), (3, .int y3)]) hx hb dX4_join_32 hl (by decide) rfl (fun ls hl => ?_)
  refine lv_iload hx hb dX4_join_34 (lv_at hl 1 rfl) ?_
  refine lv_iload hx hb dX4_join_36 (lv_at hl 0 rfl) ?_
  refine lv_icmp_ne (tgt := 42) hx hb dX4_join_38 (by decide) (fun c_38 => ?_) (fun c_38 => ?_)
  · have hm := hm.2 c_38
    refine lv_iconst (v := (0 : Int32)) hx hb dX4_join_42 (by decide) ?_
    refine lv_istore (lv' := [(6, .int (0 : Int32)), (5, .int x5_32), (4, .int x4_15), (0, .ref (a 2)), (1, .int y1), (2, .int y2), (3, .int y3)]) hx hb dX4_join_43 hl (by decide) rfl (fun ls hl => ?_)
    obtain ⟨n45, hm⟩ := hm
    exact L45 y3 x4_15 x5_32 n45 (0 : Int32) S _ _ _ hm hP hS (lv_sub hl [3, 6, 2, 1, 0] rfl)
  · have hm := hm.1 c_38
    exact z_retv hx hb hr hlocks hP hS hm dX4_join_41

abbrev rm_X4_joinColumn : Room := { frames := 2, cells := 0, slots := 0, locals := 47 }
def X4_joinColumn_b58 (S : ZS) (Q : ZS → Prop) : Prop :=
  Q S
def X4_joinColumn_b52 (x1 : Int32) (x2 : Int32) (x3 : Int32) (S : ZS) (Q : ZS → Prop) (k20 : Int32 × ZS → Prop) : Prop :=
  ∀ x3_52 : Int32, x3_52 = x3 + (1 : Int32) → k20 (x3_52, S)
def X4_joinColumn_B20 (x1 : Int32) (x2 : Int32) (x3 : Int32) (S : ZS) (Q : ZS → Prop) (k20 : Int32 × ZS → Prop) : Prop :=
  ((S.1 1 1) ≤ x3 → X4_joinColumn_b58 S Q) ∧ (¬ (S.1 1 1) ≤ x3 → vp_in x3 8 ∧ vp_in x1 10 ∧ ((S.1 (14 + (x3).toNatClampNeg) (x1).toNatClampNeg) = 0 → X4_joinColumn_b52 x1 x2 x3 S Q k20) ∧ (¬ (S.1 (14 + (x3).toNatClampNeg) (x1).toNatClampNeg) = 0 → X4_join x2 x3 (1 : Int32) S (fun S_49 => X4_joinColumn_b52 x1 x2 x3 S_49 Q k20)))
def X4_joinColumn_L20 (x1 : Int32) (x2 : Int32) (Q : ZS → Prop) : (Int32 × ZS) → ((Int32 × ZS) → Prop) → Prop := fun st k20 => X4_joinColumn_B20 x1 x2 st.1 st.2 Q k20
def X4_joinColumn (y1 : Int32) (S : ZS) (Q : ZS → Prop) : Prop :=
  X5_nextTerm y1 (0 : Int32) S (fun r_6 S_6 => (r_6 = (-1 : Int32) → Q S_6) ∧ (¬ r_6 = (-1 : Int32) → ∀ x3_19 : Int32, x3_19 = (r_6 + (1 : Int32)) → zl (X4_joinColumn_L20 y1 r_6 Q) (x3_19, S_6)))
set_option maxHeartbeats 4000000 in
set_option maxRecDepth 100000 in
theorem c_X4_joinColumn (l : Launch) (D : va_G) (k : Nat → ClassId) (a : Nat → Nat) (hj : zDj a) (y1 : Int32) (S : ZS) (Q : ZS → Prop) (hm : X4_joinColumn y1 S Q) (sz : Nat) : Met l yX4_joinColumn wsX4_joinColumn rm_X4_joinColumn (zPc D k a [.ref (a 2), .int y1] S sz) (va_Qv Q (zB D k a) (zA a sz)) 0 0 (zA a sz) := by
  refine Met.ofW (cc := cX4_joinColumn) (maxL := 4) (ret := none) (by decide) rfl ?_
  intro p e s m args below meth c s₁ B hml hv
  obtain ⟨rfl, hsz, hP, hK⟩ := hv
  have hx := B.exec
  have hb := B.bytes
  have hr := B.returns
  have hts := atoms_spec (ws := wsX4_joinColumn) B.pre
  have hown : s.vm.findClass RX4 = some m.cls := findClass_of_methodNamed B.named
  have hlocks := B.notSynchronized
  subst hsz
  have hS : va_S (zA a s.heap.size) s.heap s.heap [] := va_S.rf
  have hF : CallFix p m c cX4_joinColumn 4 s _ wsX4_joinColumn RX4 := ⟨hx, hb, hml, hown, hts⟩
  have i4 : ∀ w ∈ wsX40, w ∈ wsX4_joinColumn := fun _ h => (List.mem_cons_of_mem _ (List.mem_append_left _ (List.mem_append_right _ h)))
  have i5 : ∀ w ∈ wsX50, w ∈ wsX4_joinColumn := fun _ h => (List.mem_cons_of_mem _ (List.mem_append_right _ h))
  have hl := lv_entry ([.ref (a 2), .int y1]) (n := 4) (Nat.le_of_ble_eq_true rfl)
  rw [lg_entry_eq]
  generalize (lg_sl ([.ref (a 2), .int y1]) ++ List.replicate (4 - (lg_sl ([.ref (a 2), .int y1])).length) Slot.unset).toArray = ls at hl ⊢
  have hl : lv_has ls 4 [(0, .ref (a 2)), (1, .int y1)] := hl
  have b58 : ∀ (S : ZS) (H : Heap) (locs : List Loc) (ls : Array Slot), X4_joinColumn_b58 S Q → va_P D vwCl (zWS k a S) H → va_S (zA a s.heap.size) s.heap H locs → lv_has ls 4 [(0, .ref (a 2))] → zWv p l e (headSpec wsX4_joinColumn rm_X4_joinColumn).room s m ([.ref (a 2), .int y1] : List Value) below meth c D k a Q H locs (F0 m 58 ls []) := by
    intro S H locs ls hm hP hS hl
    unfold X4_joinColumn_b58 at hm
    exact z_retv hx hb hr hlocks hP hS hm dX4_joinColumn_58
  have L20 : ∀ (x1 : Int32) (x2 : Int32) (n : Nat) (x3 : Int32) (S : ZS) (H : Heap) (locs : List Loc) (ls : Array Slot), zn (X4_joinColumn_L20 x1 x2 Q) n (x3, S) → va_P D vwCl (zWS k a S) H → va_S (zA a s.heap.size) s.heap H locs → lv_has ls 4 [(0, .ref (a 2)), (1, .int x1), (2, .int x2), (3, .int x3)] → zWv p l e (headSpec wsX4_joinColumn rm_X4_joinColumn).room s m ([.ref (a 2), .int y1] : List Value) below meth c D k a Q H locs (F0 m 20 ls []) := by
    intro x1 x2 n
    induction n with
    | zero =>
      intro x3 S H locs ls hm
      exact hm.elim
    | succ n ih20 =>
      intro x3 S H locs ls hm hP hS hl
      have hm : X4_joinColumn_B20 x1 x2 x3 S Q (zn (X4_joinColumn_L20 x1 x2 Q) n) := hm
      generalize zn (X4_joinColumn_L20 x1 x2 Q) n = k20 at hm ih20
      unfold X4_joinColumn_B20 at hm
      have b52 : ∀ (x3 : Int32) (S : ZS) (H : Heap) (locs : List Loc) (ls : Array Slot), X4_joinColumn_b52 x1 x2 x3 S Q k20 → va_P D vwCl (zWS k a S) H → va_S (zA a s.heap.size) s.heap H locs → lv_has ls 4 [(0, .ref (a 2)), (1, .int x1), (2, .int x2), (3, .int x3)] → zWv p l e (headSpec wsX4_joinColumn rm_X4_joinColumn).room s m ([.ref (a 2), .int y1] : List Value) below meth c D k a Q H locs (F0 m 52 ls []) := by
        intro x3 S H locs ls hm hP hS hl
        unfold X4_joinColumn_b52 at hm
        obtain ⟨x3_52, ex3_52⟩ : ∃ y : Int32, y = x3 + (1 : Int32) := ⟨_, rfl⟩
        have hm := hm x3_52 ex3_52
        refine lv_iinc (v := x3_52) (lv' := [(3, .int x3_52), (0, .ref (a 2)), (1, .int x1), (2, .int x2)]) hx hb dX4_joinColumn_52 hl (k := 3) rfl (by rw [ex3_52]; rfl) (by decide) rfl (fun ls hl => ?_)
        refine lv_goto (tgt := 20) hx hb dX4_joinColumn_55 (by decide) ?_
        exact ih20 x3_52 S _ _ _ hm hP hS (lv_sub hl [1, 2, 3, 0] rfl)
      refine lv_iload_n hx hb dX4_joinColumn_20 rfl (lv_at hl 3 rfl) ?_
      refine lv_aload_n hx hb dX4_joinColumn_21 rfl (lv_at hl 0 rfl) ?_
      refine zg_4_whole hx hb hts i4 hown hK hP (hts _ (List.mem_of_getElem? (i := 1) rfl)) dX4_joinColumn_22 ?_
      refine zg_5_rows hx hb hts i5 hown hK hP (hts _ (List.mem_of_getElem? (i := 2) rfl)) dX4_joinColumn_25 ?_
      refine lv_icmp_ge (tgt := 58) hx hb dX4_joinColumn_28 (by decide) (fun c_28 => ?_) (fun c_28 => ?_)
      · have hm := hm.1 c_28
        exact b58  S _ _ _ hm hP hS (lv_sub hl [0] rfl)
      · have hm := hm.2 c_28
        refine lv_aload_n hx hb dX4_joinColumn_31 rfl (lv_at hl 0 rfl) ?_
        refine zg_4_whole hx hb hts i4 hown hK hP (hts _ (List.mem_of_getElem? (i := 1) rfl)) dX4_joinColumn_32 ?_
        refine zg_5_a hx hb hts i5 hown hK hP (hts _ (List.mem_of_getElem? (i := 3) rfl)) dX4_joinColumn_35 ?_
        refine lv_iload_n hx hb dX4_joinColumn_38 rfl (lv_at hl 3 rfl) ?_
        obtain ⟨h_39, hm⟩ := hm
        refine z_aald hx hb hK hP zQ_13 h_39 dX4_joinColumn_39 ?_
        refine lv_iload_n hx hb dX4_joinColumn_40 rfl (lv_at hl 1 rfl) ?_
        obtain ⟨h_41, hm⟩ := hm
        refine z_iald hx hb hK hP (zRi_13 h_39) h_41 dX4_joinColumn_41 ?_
        refine lv_if_eq (tgt := 52) hx hb dX4_joinColumn_42 (by decide) (fun c_42 => ?_) (fun c_42 => ?_)
        · have hm := hm.1 c_42
          exact b52 x3 S _ _ _ hm hP hS (lv_sub hl [0, 1, 2, 3] rfl)
        · have hm := hm.2 c_42
          refine lv_aload_n hx hb dX4_joinColumn_45 rfl (lv_at hl 0 rfl) ?_
          refine lv_iload_n hx hb dX4_joinColumn_46 rfl (lv_at hl 2 rfl) ?_
          refine lv_iload_n hx hb dX4_joinColumn_47 rfl (lv_at hl 3 rfl) ?_
          refine lv_iconst (v := (1 : Int32)) hx hb dX4_joinColumn_48 (by decide) ?_
          refine z_cVv (As := [.int x2, .int x3, .int (1 : Int32)]) (rest := []) hF hK hP hS zO_2 rfl rfl (c_X4_join l D k a hj x2 x3 (1 : Int32) S _ hm _) (cwV 3 hts gX4_joinColumn_X4_join rfl rfl rfl (by decide +kernel) ⟨Nat.le_of_ble_eq_true rfl, Nat.le_of_ble_eq_true rfl⟩) rfl hl.1 rfl (Nat.le_of_ble_eq_true rfl) dX4_joinColumn_49 ⟨Nat.zero_le _, Nat.zero_le _⟩ (fun S_49 H locs hm hP hS => ?_)
          exact b52 x3 S_49 _ _ _ hm hP hS (lv_sub hl [0, 1, 2, 3] rfl)
  unfold X4_joinColumn at hm
  refine lv_aload_n hx hb dX4_joinColumn_0 rfl (lv_at hl 0 rfl) ?_
  refine zg_4_whole hx hb hts i4 hown hK hP (hts _ (List.mem_of_getElem? (i := 1) rfl)) dX4_joinColumn_1 ?_
  refine lv_iload_n hx hb dX4_joinColumn_4 rfl (lv_at hl 1 rfl) ?_
  refine lv_iconst (v := (0 : Int32)) hx hb dX4_joinColumn_5 (by decide) ?_
  refine z_cVi (As := [.int y1, .int (0 : Int32)]) (rest := []) hF hK hP hS zO_1 rfl rfl (c_X5_nextTerm l D k a hj y1 (0 : Int32) S _ hm _) (cwV 2 hts gX4_joinColumn_X5_nextTerm rfl rfl rfl (by decide +kernel) ⟨Nat.le_of_ble_eq_true rfl, Nat.le_of_ble_eq_true rfl⟩) rfl hl.1 rfl (Nat.le_of_ble_eq_true rfl) dX4_joinColumn_6 ⟨Nat.zero_le _, Nat.zero_le _⟩ (fun r_6 S_6 H locs hm hP hS => ?_)
  refine lv_istore_n (lv' := [(2, .int r_6), (0, .ref (a 2)), (1, .int y1)]) hx hb dX4_joinColumn_9 rfl hl (by decide) rfl (fun ls hl => ?_)
  refine lv_iload_n hx hb dX4_joinColumn_10 rfl (lv_at hl 0 rfl) ?_
  refine lv_iconst (v := (-1 : Int32)) hx hb dX4_joinColumn_11 (by decide) ?_
  refine lv_icmp_ne (tgt := 16) hx hb dX4_joinColumn_12 (by decide) (fun c_12 => ?_) (fun c_12 => ?_)
  · have hm := hm.2 c_12
    refine lv_iload_n hx hb dX4_joinColumn_16 rfl (lv_at hl 0 rfl) ?_
    refine lv_iconst (v := (1 : Int32)) hx hb dX4_joinColumn_17 (by decide) ?_
    refine lv_iadd hx hb dX4_joinColumn_18 ?_
    refine lv_topi (fun x3_19 ex3_19 => ?_)
    have hm := hm x3_19 ex3_19
    refine lv_istore_n (lv' := [(3, .int x3_19), (2, .int r_6), (0, .ref (a 2)), (1, .int y1)]) hx hb dX4_joinColumn_19 rfl hl (by decide) rfl (fun ls hl => ?_)
    obtain ⟨n20, hm⟩ := hm
    exact L20 y1 r_6 n20 x3_19 S_6 _ _ _ hm hP hS (lv_sub hl [2, 3, 1, 0] rfl)
  · have hm := hm.1 c_12
    exact z_retv hx hb hr hlocks hP hS hm dX4_joinColumn_15

abbrev rm_X4_findParts : Room := { frames := 3, cells := 0, slots := 0, locals := 70 }
def X4_findParts_b62 (x1 : Int32) (S : ZS) (Q : Int32 → ZS → Prop) : Prop :=
  Q x1 S
def X4_findParts_b56 (x1 : Int32) (x2 : Int32) (S : ZS) (Q : Int32 → ZS → Prop) (k32 : Int32 × Int32 × ZS → Prop) : Prop :=
  ∀ x2_56 : Int32, x2_56 = x2 + (1 : Int32) → k32 (x1, x2_56, S)
def X4_findParts_B32 (x1 : Int32) (x2 : Int32) (S : ZS) (Q : Int32 → ZS → Prop) (k32 : Int32 × Int32 × ZS → Prop) : Prop :=
  ((S.1 1 1) ≤ x2 → X4_findParts_b62 x1 S Q) ∧ (¬ (S.1 1 1) ≤ x2 → vp_in x2 8 ∧ ((S.1 22 (x2).toNatClampNeg) = x2 → ∀ x1_53 : Int32, x1_53 = x1 + (1 : Int32) → X4_findParts_b56 x1_53 x2 S Q k32) ∧ (¬ (S.1 22 (x2).toNatClampNeg) = x2 → X4_findParts_b56 x1 x2 S Q k32))
def X4_findParts_L32 (Q : Int32 → ZS → Prop) : (Int32 × Int32 × ZS) → ((Int32 × Int32 × ZS) → Prop) → Prop := fun st k32 => X4_findParts_B32 st.1 st.2.1 st.2.2 Q k32
def X4_findParts_b28 (S : ZS) (Q : Int32 → ZS → Prop) : Prop :=
  zl (X4_findParts_L32 Q) ((0 : Int32), (0 : Int32), S)
def X4_findParts_B6 (x1 : Int32) (S : ZS) (Q : Int32 → ZS → Prop) (k6 : Int32 × ZS → Prop) : Prop :=
  ((S.1 1 0) ≤ x1 → X4_findParts_b28 S Q) ∧ (¬ (S.1 1 0) ≤ x1 → X4_joinColumn x1 S (fun S_19 => ∀ x1_22 : Int32, x1_22 = x1 + (1 : Int32) → k6 (x1_22, S_19)))
def X4_findParts_L6 (Q : Int32 → ZS → Prop) : (Int32 × ZS) → ((Int32 × ZS) → Prop) → Prop := fun st k6 => X4_findParts_B6 st.1 st.2 Q k6
def X4_findParts (S : ZS) (Q : Int32 → ZS → Prop) : Prop :=
  X4_startAlone S (fun S_1 => zl (X4_findParts_L6 Q) ((0 : Int32), S_1))
set_option maxHeartbeats 4000000 in
set_option maxRecDepth 100000 in
theorem c_X4_findParts (l : Launch) (D : va_G) (k : Nat → ClassId) (a : Nat → Nat) (hj : zDj a) (S : ZS) (Q : Int32 → ZS → Prop) (hm : X4_findParts S Q) (sz : Nat) : Met l yX4_findParts wsX4_findParts rm_X4_findParts (zPc D k a [.ref (a 2)] S sz) (va_Qi Q (zB D k a) (zA a sz)) 0 0 (zA a sz) := by
  refine Met.ofW (cc := cX4_findParts) (maxL := 3) (ret := (some .int)) (by decide) rfl ?_
  intro p e s m args below meth c s₁ B hml hv
  obtain ⟨rfl, hsz, hP, hK⟩ := hv
  have hx := B.exec
  have hb := B.bytes
  have hr := B.returns
  have hts := atoms_spec (ws := wsX4_findParts) B.pre
  have hown : s.vm.findClass RX4 = some m.cls := findClass_of_methodNamed B.named
  have hlocks := B.notSynchronized
  subst hsz
  have hS : va_S (zA a s.heap.size) s.heap s.heap [] := va_S.rf
  have hF : CallFix p m c cX4_findParts 3 s _ wsX4_findParts RX4 := ⟨hx, hb, hml, hown, hts⟩
  have i4 : ∀ w ∈ wsX40, w ∈ wsX4_findParts := fun _ h => (List.mem_cons_of_mem _ (List.mem_append_left _ (List.mem_append_right _ h)))
  have i5 : ∀ w ∈ wsX50, w ∈ wsX4_findParts := fun _ h => (List.mem_cons_of_mem _ (List.mem_append_right _ h))
  have hl := lv_entry ([.ref (a 2)]) (n := 3) (Nat.le_of_ble_eq_true rfl)
  rw [lg_entry_eq]
  generalize (lg_sl ([.ref (a 2)]) ++ List.replicate (3 - (lg_sl ([.ref (a 2)])).length) Slot.unset).toArray = ls at hl ⊢
  have hl : lv_has ls 3 [(0, .ref (a 2))] := hl
  have b28 : ∀ (S : ZS) (H : Heap) (locs : List Loc) (ls : Array Slot), X4_findParts_b28 S Q → va_P D vwCl (zWS k a S) H → va_S (zA a s.heap.size) s.heap H locs → lv_has ls 3 [(0, .ref (a 2))] → zWi p l e (headSpec wsX4_findParts rm_X4_findParts).room s m ([.ref (a 2)] : List Value) below meth c D k a Q H locs (F0 m 28 ls []) := by
    intro S H locs ls hm hP hS hl
    unfold X4_findParts_b28 at hm
    have b62 : ∀ (x1 : Int32) (S : ZS) (H : Heap) (locs : List Loc) (ls : Array Slot), X4_findParts_b62 x1 S Q → va_P D vwCl (zWS k a S) H → va_S (zA a s.heap.size) s.heap H locs → lv_has ls 3 [(0, .ref (a 2)), (1, .int x1)] → zWi p l e (headSpec wsX4_findParts rm_X4_findParts).room s m ([.ref (a 2)] : List Value) below meth c D k a Q H locs (F0 m 62 ls []) := by
      intro x1 S H locs ls hm hP hS hl
      unfold X4_findParts_b62 at hm
      refine lv_iload_n hx hb dX4_findParts_62 rfl (lv_at hl 1 rfl) ?_
      exact z_reti hx hb hr hlocks hP hS hm dX4_findParts_63
    have L32 : ∀ (n : Nat) (x1 : Int32) (x2 : Int32) (S : ZS) (H : Heap) (locs : List Loc) (ls : Array Slot), zn (X4_findParts_L32 Q) n (x1, x2, S) → va_P D vwCl (zWS k a S) H → va_S (zA a s.heap.size) s.heap H locs → lv_has ls 3 [(0, .ref (a 2)), (1, .int x1), (2, .int x2)] → zWi p l e (headSpec wsX4_findParts rm_X4_findParts).room s m ([.ref (a 2)] : List Value) below meth c D k a Q H locs (F0 m 32 ls []) := by
      intro n
      induction n with
      | zero =>
        intro x1 x2 S H locs ls hm
        exact hm.elim
      | succ n ih32 =>
        intro x1 x2 S H locs ls hm hP hS hl
        have hm : X4_findParts_B32 x1 x2 S Q (zn (X4_findParts_L32 Q) n) := hm
        generalize zn (X4_findParts_L32 Q) n = k32 at hm ih32
        unfold X4_findParts_B32 at hm
        have b56 : ∀ (x1 : Int32) (x2 : Int32) (S : ZS) (H : Heap) (locs : List Loc) (ls : Array Slot), X4_findParts_b56 x1 x2 S Q k32 → va_P D vwCl (zWS k a S) H → va_S (zA a s.heap.size) s.heap H locs → lv_has ls 3 [(0, .ref (a 2)), (1, .int x1), (2, .int x2)] → zWi p l e (headSpec wsX4_findParts rm_X4_findParts).room s m ([.ref (a 2)] : List Value) below meth c D k a Q H locs (F0 m 56 ls []) := by
          intro x1 x2 S H locs ls hm hP hS hl
          unfold X4_findParts_b56 at hm
          obtain ⟨x2_56, ex2_56⟩ : ∃ y : Int32, y = x2 + (1 : Int32) := ⟨_, rfl⟩
          have hm := hm x2_56 ex2_56
          refine lv_iinc (v := x2_56) (lv' := [(2, .int x2_56), (0, .ref (a 2)), (1, .int x1)]) hx hb dX4_findParts_56 hl (k := 2) rfl (by rw [ex2_56]; rfl) (by decide) rfl (fun ls hl => ?_)
          refine lv_goto (tgt := 32) hx hb dX4_findParts_59 (by decide) ?_
          exact ih32 x1 x2_56 S _ _ _ hm hP hS (lv_sub hl [1, 2, 0] rfl)
        refine lv_iload_n hx hb dX4_findParts_32 rfl (lv_at hl 2 rfl) ?_
        refine lv_aload_n hx hb dX4_findParts_33 rfl (lv_at hl 0 rfl) ?_
        refine zg_4_whole hx hb hts i4 hown hK hP (hts _ (List.mem_of_getElem? (i := 1) rfl)) dX4_findParts_34 ?_
        refine zg_5_rows hx hb hts i5 hown hK hP (hts _ (List.mem_of_getElem? (i := 3) rfl)) dX4_findParts_37 ?_
        refine lv_icmp_ge (tgt := 62) hx hb dX4_findParts_40 (by decide) (fun c_40 => ?_) (fun c_40 => ?_)
        · have hm := hm.1 c_40
          exact b62 x1 S _ _ _ hm hP hS (lv_sub hl [0, 1] rfl)
        · have hm := hm.2 c_40
          refine lv_aload_n hx hb dX4_findParts_43 rfl (lv_at hl 0 rfl) ?_
          refine zg_4_leastRow hx hb hts i4 hown hK hP (hts _ (List.mem_of_getElem? (i := 4) rfl)) dX4_findParts_44 ?_
          refine lv_iload_n hx hb dX4_findParts_47 rfl (lv_at hl 2 rfl) ?_
          obtain ⟨h_48, hm⟩ := hm
          refine z_iald hx hb hK hP zI_22 h_48 dX4_findParts_48 ?_
          refine lv_iload_n hx hb dX4_findParts_49 rfl (lv_at hl 2 rfl) ?_
          refine lv_icmp_ne (tgt := 56) hx hb dX4_findParts_50 (by decide) (fun c_50 => ?_) (fun c_50 => ?_)
          · have hm := hm.2 c_50
            exact b56 x1 x2 S _ _ _ hm hP hS (lv_sub hl [0, 1, 2] rfl)
          · have hm := hm.1 c_50
            obtain ⟨x1_53, ex1_53⟩ : ∃ y : Int32, y = x1 + (1 : Int32) := ⟨_, rfl⟩
            have hm := hm x1_53 ex1_53
            refine lv_iinc (v := x1_53) (lv' := [(1, .int x1_53), (0, .ref (a 2)), (2, .int x2)]) hx hb dX4_findParts_53 hl (k := 1) rfl (by rw [ex1_53]; rfl) (by decide) rfl (fun ls hl => ?_)
            exact b56 x1_53 x2 S _ _ _ hm hP hS (lv_sub hl [1, 0, 2] rfl)
    refine lv_iconst (v := (0 : Int32)) hx hb dX4_findParts_28 (by decide) ?_
    refine lv_istore_n (lv' := [(1, .int (0 : Int32)), (0, .ref (a 2))]) hx hb dX4_findParts_29 rfl hl (by decide) rfl (fun ls hl => ?_)
    refine lv_iconst (v := (0 : Int32)) hx hb dX4_findParts_30 (by decide) ?_
    refine lv_istore_n (lv' := [(2, .int (0 : Int32)), (1, .int (0 : Int32)), (0, .ref (a 2))]) hx hb dX4_findParts_31 rfl hl (by decide) rfl (fun ls hl => ?_)
    obtain ⟨n32, hm⟩ := hm
    exact L32 n32 (0 : Int32) (0 : Int32) S _ _ _ hm hP hS (lv_sub hl [2, 1, 0] rfl)
  have L6 : ∀ (n : Nat) (x1 : Int32) (S : ZS) (H : Heap) (locs : List Loc) (ls : Array Slot), zn (X4_findParts_L6 Q) n (x1, S) → va_P D vwCl (zWS k a S) H → va_S (zA a s.heap.size) s.heap H locs → lv_has ls 3 [(0, .ref (a 2)), (1, .int x1)] → zWi p l e (headSpec wsX4_findParts rm_X4_findParts).room s m ([.ref (a 2)] : List Value) below meth c D k a Q H locs (F0 m 6 ls []) := by
    intro n
    induction n with
    | zero =>
      intro x1 S H locs ls hm
      exact hm.elim
    | succ n ih6 =>
      intro x1 S H locs ls hm hP hS hl
      have hm : X4_findParts_B6 x1 S Q (zn (X4_findParts_L6 Q) n) := hm
      generalize zn (X4_findParts_L6 Q) n = k6 at hm ih6
      unfold X4_findParts_B6 at hm
      refine lv_iload_n hx hb dX4_findParts_6 rfl (lv_at hl 1 rfl) ?_
      refine lv_aload_n hx hb dX4_findParts_7 rfl (lv_at hl 0 rfl) ?_
      refine zg_4_whole hx hb hts i4 hown hK hP (hts _ (List.mem_of_getElem? (i := 1) rfl)) dX4_findParts_8 ?_
      refine zg_5_columns hx hb hts i5 hown hK hP (hts _ (List.mem_of_getElem? (i := 2) rfl)) dX4_findParts_11 ?_
      refine lv_icmp_ge (tgt := 28) hx hb dX4_findParts_14 (by decide) (fun c_14 => ?_) (fun c_14 => ?_)
      · have hm := hm.1 c_14
        exact b28  S _ _ _ hm hP hS (lv_sub hl [0] rfl)
      · have hm := hm.2 c_14
        refine lv_aload_n hx hb dX4_findParts_17 rfl (lv_at hl 0 rfl) ?_
        refine lv_iload_n hx hb dX4_findParts_18 rfl (lv_at hl 1 rfl) ?_
        refine z_cVv (As := [.int x1]) (rest := []) hF hK hP hS zO_2 rfl rfl (c_X4_joinColumn l D k a hj x1 S _ hm _) (cwV 1 hts gX4_findParts_X4_joinColumn rfl rfl rfl (by decide +kernel) ⟨Nat.le_of_ble_eq_true rfl, Nat.le_of_ble_eq_true rfl⟩) rfl hl.1 rfl (Nat.le_of_ble_eq_true rfl) dX4_findParts_19 ⟨Nat.zero_le _, Nat.zero_le _⟩ (fun S_19 H locs hm hP hS => ?_)
        obtain ⟨x1_22, ex1_22⟩ : ∃ y : Int32, y = x1 + (1 : Int32) := ⟨_, rfl⟩
        have hm := hm x1_22 ex1_22
        refine lv_iinc (v := x1_22) (lv' := [(1, .int x1_22), (0, .ref (a 2))]) hx hb dX4_findParts_22 hl (k := 1) rfl (by rw [ex1_22]; rfl) (by decide) rfl (fun ls hl => ?_)
        refine lv_goto (tgt := 6) hx hb dX4_findParts_25 (by decide) ?_
        exact ih6 x1_22 S_19 _ _ _ hm hP hS (lv_sub hl [1, 0] rfl)
  unfold X4_findParts at hm
  refine lv_aload_n hx hb dX4_findParts_0 rfl (lv_at hl 0 rfl) ?_
  refine z_cVv (As := []) (rest := []) hF hK hP hS zO_2 rfl rfl (c_X4_startAlone l D k a hj  S _ hm _) (cwV 0 hts gX4_findParts_X4_startAlone rfl rfl rfl (by decide +kernel) ⟨Nat.le_of_ble_eq_true rfl, Nat.le_of_ble_eq_true rfl⟩) rfl hl.1 rfl (Nat.le_of_ble_eq_true rfl) dX4_findParts_1 ⟨Nat.zero_le _, Nat.zero_le _⟩ (fun S_1 H locs hm hP hS => ?_)
  refine lv_iconst (v := (0 : Int32)) hx hb dX4_findParts_4 (by decide) ?_
  refine lv_istore_n (lv' := [(1, .int (0 : Int32)), (0, .ref (a 2))]) hx hb dX4_findParts_5 rfl hl (by decide) rfl (fun ls hl => ?_)
  obtain ⟨n6, hm⟩ := hm
  exact L6 n6 (0 : Int32) S_1 _ _ _ hm hP hS (lv_sub hl [1, 0] rfl)

abbrev rm_X4_canBeArc : Room := { frames := 1, cells := 0, slots := 0, locals := 23 }
def X4_canBeArc_b56 (t0 : Int32) (S : ZS) (Q : Int32 → ZS → Prop) : Prop :=
  zbit t0 ∧ Q t0 S
def X4_canBeArc_b39 (x1 : Int32) (S : ZS) (Q : Int32 → ZS → Prop) : Prop :=
  X5_countTerms x1 S (fun r_44 S_44 => ((2 : Int32) < r_44 → X4_canBeArc_b56 (0 : Int32) S_44 Q) ∧ (¬ (2 : Int32) < r_44 → X4_canBeArc_b56 (1 : Int32) S_44 Q))
def X4_canBeArc_b31 (S : ZS) (Q : Int32 → ZS → Prop) : Prop :=
  zbit (0 : Int32) ∧ Q (0 : Int32) S
def X4_canBeArc_B2 (x1 : Int32) (x2 : Int32) (S : ZS) (Q : Int32 → ZS → Prop) (k2 : Int32 × ZS → Prop) : Prop :=
  ((S.1 1 1) ≤ x2 → X4_canBeArc_b39 x1 S Q) ∧ (¬ (S.1 1 1) ≤ x2 → vp_in x2 8 ∧ vp_in x1 10 ∧ X6_isWithin (S.1 (14 + (x2).toNatClampNeg) (x1).toNatClampNeg) (1 : Int32) S (fun r_25 S_25 => (r_25 = 0 → X4_canBeArc_b31 S_25 Q) ∧ (¬ r_25 = 0 → ∀ x2_33 : Int32, x2_33 = x2 + (1 : Int32) → k2 (x2_33, S_25))))
def X4_canBeArc_L2 (x1 : Int32) (Q : Int32 → ZS → Prop) : (Int32 × ZS) → ((Int32 × ZS) → Prop) → Prop := fun st k2 => X4_canBeArc_B2 x1 st.1 st.2 Q k2
def X4_canBeArc (y1 : Int32) (S : ZS) (Q : Int32 → ZS → Prop) : Prop :=
  zl (X4_canBeArc_L2 y1 Q) ((0 : Int32), S)
set_option maxHeartbeats 4000000 in
set_option maxRecDepth 100000 in
theorem c_X4_canBeArc (l : Launch) (D : va_G) (k : Nat → ClassId) (a : Nat → Nat) (hj : zDj a) (y1 : Int32) (S : ZS) (Q : Int32 → ZS → Prop) (hm : X4_canBeArc y1 S Q) (sz : Nat) : Met l yX4_canBeArc wsX4_canBeArc rm_X4_canBeArc (zPc D k a [.ref (a 2), .int y1] S sz) (va_Qi Q (zB D k a) (zA a sz)) 0 0 (zA a sz) := by
  refine Met.ofW (cc := cX4_canBeArc) (maxL := 3) (ret := (some .boolean)) (by decide) rfl ?_
  intro p e s m args below meth c s₁ B hml hv
  obtain ⟨rfl, hsz, hP, hK⟩ := hv
  have hx := B.exec
  have hb := B.bytes
  have hr := B.returns
  have hts := atoms_spec (ws := wsX4_canBeArc) B.pre
  have hown : s.vm.findClass RX4 = some m.cls := findClass_of_methodNamed B.named
  have hlocks := B.notSynchronized
  subst hsz
  have hS : va_S (zA a s.heap.size) s.heap s.heap [] := va_S.rf
  have hF : CallFix p m c cX4_canBeArc 3 s _ wsX4_canBeArc RX4 := ⟨hx, hb, hml, hown, hts⟩
  have i4 : ∀ w ∈ wsX40, w ∈ wsX4_canBeArc := fun _ h => (List.mem_cons_of_mem _ (List.mem_append_left _ (List.mem_append_right _ h)))
  have i5 : ∀ w ∈ wsX50, w ∈ wsX4_canBeArc := fun _ h => (List.mem_cons_of_mem _ (List.mem_append_right _ h))
  have hl := lv_entry ([.ref (a 2), .int y1]) (n := 3) (Nat.le_of_ble_eq_true rfl)
  rw [lg_entry_eq]
  generalize (lg_sl ([.ref (a 2), .int y1]) ++ List.replicate (3 - (lg_sl ([.ref (a 2), .int y1])).length) Slot.unset).toArray = ls at hl ⊢
  have hl : lv_has ls 3 [(0, .ref (a 2)), (1, .int y1)] := hl
  have b39 : ∀ (x1 : Int32) (S : ZS) (H : Heap) (locs : List Loc) (ls : Array Slot), X4_canBeArc_b39 x1 S Q → va_P D vwCl (zWS k a S) H → va_S (zA a s.heap.size) s.heap H locs → lv_has ls 3 [(0, .ref (a 2)), (1, .int x1)] → zWi p l e (headSpec wsX4_canBeArc rm_X4_canBeArc).room s m ([.ref (a 2), .int y1] : List Value) below meth c D k a Q H locs (F0 m 39 ls []) := by
    intro x1 S H locs ls hm hP hS hl
    unfold X4_canBeArc_b39 at hm
    have b56 : ∀ (t0 : Int32) (S : ZS) (H : Heap) (locs : List Loc) (ls : Array Slot), X4_canBeArc_b56 t0 S Q → va_P D vwCl (zWS k a S) H → va_S (zA a s.heap.size) s.heap H locs → lv_has ls 3 [(0, .ref (a 2))] → zWi p l e (headSpec wsX4_canBeArc rm_X4_canBeArc).room s m ([.ref (a 2), .int y1] : List Value) below meth c D k a Q H locs (F0 m 56 ls [.int t0]) := by
      intro t0 S H locs ls hm hP hS hl
      unfold X4_canBeArc_b56 at hm
      exact z_retz hx hb hr hlocks hP hS hm dX4_canBeArc_56
    refine lv_aload_n hx hb dX4_canBeArc_39 rfl (lv_at hl 0 rfl) ?_
    refine zg_4_whole hx hb hts i4 hown hK hP (hts _ (List.mem_of_getElem? (i := 1) rfl)) dX4_canBeArc_40 ?_
    refine lv_iload_n hx hb dX4_canBeArc_43 rfl (lv_at hl 1 rfl) ?_
    refine z_cVi (As := [.int x1]) (rest := []) hF hK hP hS zO_1 rfl rfl (c_X5_countTerms l D k a hj x1 S _ hm _) (cwV 1 hts gX4_canBeArc_X5_countTerms rfl rfl rfl (by decide +kernel) ⟨Nat.le_of_ble_eq_true rfl, Nat.le_of_ble_eq_true rfl⟩) rfl hl.1 rfl (Nat.le_of_ble_eq_true rfl) dX4_canBeArc_44 ⟨Nat.zero_le _, Nat.zero_le _⟩ (fun r_44 S_44 H locs hm hP hS => ?_)
    refine lv_iconst (v := (2 : Int32)) hx hb dX4_canBeArc_47 (by decide) ?_
    refine lv_icmp_gt (tgt := 55) hx hb dX4_canBeArc_48 (by decide) (fun c_48 => ?_) (fun c_48 => ?_)
    · have hm := hm.1 c_48
      refine lv_iconst (v := (0 : Int32)) hx hb dX4_canBeArc_55 (by decide) ?_
      exact b56 (0 : Int32) S_44 _ _ _ hm hP hS (lv_sub hl [0] rfl)
    · have hm := hm.2 c_48
      refine lv_iconst (v := (1 : Int32)) hx hb dX4_canBeArc_51 (by decide) ?_
      refine lv_goto (tgt := 56) hx hb dX4_canBeArc_52 (by decide) ?_
      exact b56 (1 : Int32) S_44 _ _ _ hm hP hS (lv_sub hl [0] rfl)
  have b31 : ∀ (S : ZS) (H : Heap) (locs : List Loc) (ls : Array Slot), X4_canBeArc_b31 S Q → va_P D vwCl (zWS k a S) H → va_S (zA a s.heap.size) s.heap H locs → lv_has ls 3 [(0, .ref (a 2))] → zWi p l e (headSpec wsX4_canBeArc rm_X4_canBeArc).room s m ([.ref (a 2), .int y1] : List Value) below meth c D k a Q H locs (F0 m 31 ls []) := by
    intro S H locs ls hm hP hS hl
    unfold X4_canBeArc_b31 at hm
    refine lv_iconst (v := (0 : Int32)) hx hb dX4_canBeArc_31 (by decide) ?_
    exact z_retz hx hb hr hlocks hP hS hm dX4_canBeArc_32
  have L2 : ∀ (x1 : Int32) (n : Nat) (x2 : Int32) (S : ZS) (H : Heap) (locs : List Loc) (ls : Array Slot), zn (X4_canBeArc_L2 x1 Q) n (x2, S) → va_P D vwCl (zWS k a S) H → va_S (zA a s.heap.size) s.heap H locs → lv_has ls 3 [(0, .ref (a 2)), (1, .int x1), (2, .int x2)] → zWi p l e (headSpec wsX4_canBeArc rm_X4_canBeArc).room s m ([.ref (a 2), .int y1] : List Value) below meth c D k a Q H locs (F0 m 2 ls []) := by
    intro x1 n
    induction n with
    | zero =>
      intro x2 S H locs ls hm
      exact hm.elim
    | succ n ih2 =>
      intro x2 S H locs ls hm hP hS hl
      have hm : X4_canBeArc_B2 x1 x2 S Q (zn (X4_canBeArc_L2 x1 Q) n) := hm
      generalize zn (X4_canBeArc_L2 x1 Q) n = k2 at hm ih2
      unfold X4_canBeArc_B2 at hm
      refine lv_iload_n hx hb dX4_canBeArc_2 rfl (lv_at hl 2 rfl) ?_
      refine lv_aload_n hx hb dX4_canBeArc_3 rfl (lv_at hl 0 rfl) ?_
      refine zg_4_whole hx hb hts i4 hown hK hP (hts _ (List.mem_of_getElem? (i := 1) rfl)) dX4_canBeArc_4 ?_
      refine zg_5_rows hx hb hts i5 hown hK hP (hts _ (List.mem_of_getElem? (i := 2) rfl)) dX4_canBeArc_7 ?_
      refine lv_icmp_ge (tgt := 39) hx hb dX4_canBeArc_10 (by decide) (fun c_10 => ?_) (fun c_10 => ?_)
      · have hm := hm.1 c_10
        exact b39 x1 S _ _ _ hm hP hS (lv_sub hl [0, 1] rfl)
      · have hm := hm.2 c_10
        refine lv_aload_n hx hb dX4_canBeArc_13 rfl (lv_at hl 0 rfl) ?_
        refine zg_4_whole hx hb hts i4 hown hK hP (hts _ (List.mem_of_getElem? (i := 1) rfl)) dX4_canBeArc_14 ?_
        refine zg_5_a hx hb hts i5 hown hK hP (hts _ (List.mem_of_getElem? (i := 3) rfl)) dX4_canBeArc_17 ?_
        refine lv_iload_n hx hb dX4_canBeArc_20 rfl (lv_at hl 2 rfl) ?_
        obtain ⟨h_21, hm⟩ := hm
        refine z_aald hx hb hK hP zQ_13 h_21 dX4_canBeArc_21 ?_
        refine lv_iload_n hx hb dX4_canBeArc_22 rfl (lv_at hl 1 rfl) ?_
        obtain ⟨h_23, hm⟩ := hm
        refine z_iald hx hb hK hP (zRi_13 h_21) h_23 dX4_canBeArc_23 ?_
        refine lv_iconst (v := (1 : Int32)) hx hb dX4_canBeArc_24 (by decide) ?_
        refine z_cNi (As := [.int (S.1 (14 + (x2).toNatClampNeg) (x1).toNatClampNeg), .int (1 : Int32)]) (rest := []) hF hK hP hS (c_X6_isWithin l D k a hj (S.1 (14 + (x2).toNatClampNeg) (x1).toNatClampNeg) (1 : Int32) S _ hm _) ⟨va_cnB 2 hts gX4_canBeArc_X6_isWithin_n111 rfl rfl rfl hK.2 (hts (.initialized RX6) (List.mem_of_getElem? (i := 5) rfl)) (by decide +kernel) ⟨Nat.le_of_ble_eq_true rfl, Nat.le_of_ble_eq_true rfl⟩, hts _ (List.mem_of_getElem? (i := 4) rfl), trivial⟩ rfl hl.1 rfl (Nat.le_of_ble_eq_true rfl) dX4_canBeArc_25 ⟨Nat.zero_le _, Nat.zero_le _⟩ (fun r_25 S_25 H locs hm hP hS => ?_)
        refine lv_if_ne (tgt := 33) hx hb dX4_canBeArc_28 (by decide) (fun c_28 => ?_) (fun c_28 => ?_)
        · have hm := hm.2 c_28
          obtain ⟨x2_33, ex2_33⟩ : ∃ y : Int32, y = x2 + (1 : Int32) := ⟨_, rfl⟩
          have hm := hm x2_33 ex2_33
          refine lv_iinc (v := x2_33) (lv' := [(2, .int x2_33), (0, .ref (a 2)), (1, .int x1)]) hx hb dX4_canBeArc_33 hl (k := 2) rfl (by rw [ex2_33]; rfl) (by decide) rfl (fun ls hl => ?_)
          refine lv_goto (tgt := 2) hx hb dX4_canBeArc_36 (by decide) ?_
          exact ih2 x2_33 S_25 _ _ _ hm hP hS (lv_sub hl [1, 2, 0] rfl)
        · have hm := hm.1 c_28
          exact b31  S_25 _ _ _ hm hP hS (lv_sub hl [0] rfl)
  unfold X4_canBeArc at hm
  refine lv_iconst (v := (0 : Int32)) hx hb dX4_canBeArc_0 (by decide) ?_
  refine lv_istore_n (lv' := [(2, .int (0 : Int32)), (0, .ref (a 2)), (1, .int y1)]) hx hb dX4_canBeArc_1 rfl hl (by decide) rfl (fun ls hl => ?_)
  obtain ⟨n2, hm⟩ := hm
  exact L2 y1 n2 (0 : Int32) S _ _ _ hm hP hS (lv_sub hl [1, 2, 0] rfl)

abbrev rm_X4_takeArc : Room := { frames := 2, cells := 0, slots := 0, locals := 47 }
def X4_takeArc_b116 (t0 : Int32) (t1 : Int32) (t2 : Int32) (S : ZS) (Q : Int32 → ZS → Prop) : Prop :=
  X4_join t2 t1 t0 S (fun S_116 => zbit (1 : Int32) ∧ Q (1 : Int32) S_116)
def X4_takeArc_b83 (x2 : Int32) (x3 : Int32) (t0 : Int32) (S : ZS) (Q : Int32 → ZS → Prop) : Prop :=
  vp_in x2 8 ∧ vp_in x3 8 ∧ ((S.1 22 (x2).toNatClampNeg) = (S.1 22 (x3).toNatClampNeg) → zbit t0 ∧ Q t0 S) ∧ (¬ (S.1 22 (x2).toNatClampNeg) = (S.1 22 (x3).toNatClampNeg) → (t0 = 0 → X4_takeArc_b116 (-1 : Int32) x3 x2 S Q) ∧ (¬ t0 = 0 → X4_takeArc_b116 (1 : Int32) x3 x2 S Q))
def X4_takeArc_b30 (x1 : Int32) (x2 : Int32) (t0 : Int32) (S : ZS) (Q : Int32 → ZS → Prop) : Prop :=
  (t0 = (-1 : Int32) → zbit (1 : Int32) ∧ Q (1 : Int32) S) ∧ (¬ t0 = (-1 : Int32) → vp_in x2 8 ∧ vp_in x2 8 ∧ vp_in x1 10 ∧ vp_in t0 8 ∧ vp_in t0 8 ∧ vp_in x1 10 ∧ ((((S.1 23 (x2).toNatClampNeg) * (S.1 (14 + (x2).toNatClampNeg) (x1).toNatClampNeg)) + ((S.1 23 (t0).toNatClampNeg) * (S.1 (14 + (t0).toNatClampNeg) (x1).toNatClampNeg))) = 0 → X4_takeArc_b83 x2 t0 (1 : Int32) S Q) ∧ (¬ (((S.1 23 (x2).toNatClampNeg) * (S.1 (14 + (x2).toNatClampNeg) (x1).toNatClampNeg)) + ((S.1 23 (t0).toNatClampNeg) * (S.1 (14 + (t0).toNatClampNeg) (x1).toNatClampNeg))) = 0 → X4_takeArc_b83 x2 t0 (0 : Int32) S Q))
def X4_takeArc (y1 : Int32) (S : ZS) (Q : Int32 → ZS → Prop) : Prop :=
  X5_nextTerm y1 (0 : Int32) S (fun r_6 S_6 => (r_6 = (-1 : Int32) → X4_takeArc_b30 y1 r_6 (-1 : Int32) S_6 Q) ∧ (¬ r_6 = (-1 : Int32) → X5_nextTerm y1 (r_6 + (1 : Int32)) S_6 (fun r_27 S_27 => X4_takeArc_b30 y1 r_6 r_27 S_27 Q)))
set_option maxHeartbeats 4000000 in
set_option maxRecDepth 100000 in
theorem c_X4_takeArc (l : Launch) (D : va_G) (k : Nat → ClassId) (a : Nat → Nat) (hj : zDj a) (y1 : Int32) (S : ZS) (Q : Int32 → ZS → Prop) (hm : X4_takeArc y1 S Q) (sz : Nat) : Met l yX4_takeArc wsX4_takeArc rm_X4_takeArc (zPc D k a [.ref (a 2), .int y1] S sz) (va_Qi Q (zB D k a) (zA a sz)) 0 0 (zA a sz) := by
  refine Met.ofW (cc := cX4_takeArc) (maxL := 5) (ret := (some .boolean)) (by decide) rfl ?_
  intro p e s m args below meth c s₁ B hml hv
  obtain ⟨rfl, hsz, hP, hK⟩ := hv
  have hx := B.exec
  have hb := B.bytes
  have hr := B.returns
  have hts := atoms_spec (ws := wsX4_takeArc) B.pre
  have hown : s.vm.findClass RX4 = some m.cls := findClass_of_methodNamed B.named
  have hlocks := B.notSynchronized
  subst hsz
  have hS : va_S (zA a s.heap.size) s.heap s.heap [] := va_S.rf
  have hF : CallFix p m c cX4_takeArc 5 s _ wsX4_takeArc RX4 := ⟨hx, hb, hml, hown, hts⟩
  have i4 : ∀ w ∈ wsX40, w ∈ wsX4_takeArc := fun _ h => (List.mem_cons_of_mem _ (List.mem_append_left _ (List.mem_append_right _ h)))
  have i5 : ∀ w ∈ wsX50, w ∈ wsX4_takeArc := fun _ h => (List.mem_cons_of_mem _ (List.mem_append_right _ h))
  have hl := lv_entry ([.ref (a 2), .int y1]) (n := 5) (Nat.le_of_ble_eq_true rfl)
  rw [lg_entry_eq]
  generalize (lg_sl ([.ref (a 2), .int y1]) ++ List.replicate (5 - (lg_sl ([.ref (a 2), .int y1])).length) Slot.unset).toArray = ls at hl ⊢
  have hl : lv_has ls 5 [(0, .ref (a 2)), (1, .int y1)] := hl
  have b30 : ∀ (x1 : Int32) (x2 : Int32) (t0 : Int32) (S : ZS) (H : Heap) (locs : List Loc) (ls : Array Slot), X4_takeArc_b30 x1 x2 t0 S Q → va_P D vwCl (zWS k a S) H → va_S (zA a s.heap.size) s.heap H locs → lv_has ls 5 [(0, .ref (a 2)), (1, .int x1), (2, .int x2)] → zWi p l e (headSpec wsX4_takeArc rm_X4_takeArc).room s m ([.ref (a 2), .int y1] : List Value) below meth c D k a Q H locs (F0 m 30 ls [.int t0]) := by
    intro x1 x2 t0 S H locs ls hm hP hS hl
    unfold X4_takeArc_b30 at hm
    have b83 : ∀ (x2 : Int32) (x3 : Int32) (t0 : Int32) (S : ZS) (H : Heap) (locs : List Loc) (ls : Array Slot), X4_takeArc_b83 x2 x3 t0 S Q → va_P D vwCl (zWS k a S) H → va_S (zA a s.heap.size) s.heap H locs → lv_has ls 5 [(0, .ref (a 2)), (2, .int x2), (3, .int x3)] → zWi p l e (headSpec wsX4_takeArc rm_X4_takeArc).room s m ([.ref (a 2), .int y1] : List Value) below meth c D k a Q H locs (F0 m 83 ls [.int t0]) := by
      intro x2 x3 t0 S H locs ls hm hP hS hl
      unfold X4_takeArc_b83 at hm
      have b116 : ∀ (t0 : Int32) (t1 : Int32) (t2 : Int32) (S : ZS) (H : Heap) (locs : List Loc) (ls : Array Slot), X4_takeArc_b116 t0 t1 t2 S Q → va_P D vwCl (zWS k a S) H → va_S (zA a s.heap.size) s.heap H locs → lv_has ls 5 [(0, .ref (a 2))] → zWi p l e (headSpec wsX4_takeArc rm_X4_takeArc).room s m ([.ref (a 2), .int y1] : List Value) below meth c D k a Q H locs (F0 m 116 ls [.int t0, .int t1, .int t2, .ref (a 2)]) := by
        intro t0 t1 t2 S H locs ls hm hP hS hl
        unfold X4_takeArc_b116 at hm
        refine z_cVv (As := [.int t2, .int t1, .int t0]) (rest := []) hF hK hP hS zO_2 rfl rfl (c_X4_join l D k a hj t2 t1 t0 S _ hm _) (cwV 3 hts gX4_takeArc_X4_join rfl rfl rfl (by decide +kernel) ⟨Nat.le_of_ble_eq_true rfl, Nat.le_of_ble_eq_true rfl⟩) rfl hl.1 rfl (Nat.le_of_ble_eq_true rfl) dX4_takeArc_116 ⟨Nat.zero_le _, Nat.zero_le _⟩ (fun S_116 H locs hm hP hS => ?_)
        refine lv_iconst (v := (1 : Int32)) hx hb dX4_takeArc_119 (by decide) ?_
        exact z_retz hx hb hr hlocks hP hS hm dX4_takeArc_120
      refine lv_istore (lv' := [(4, .int t0), (0, .ref (a 2)), (2, .int x2), (3, .int x3)]) hx hb dX4_takeArc_83 hl (by decide) rfl (fun ls hl => ?_)
      refine lv_aload_n hx hb dX4_takeArc_85 rfl (lv_at hl 1 rfl) ?_
      refine zg_4_leastRow hx hb hts i4 hown hK hP (hts _ (List.mem_of_getElem? (i := 4) rfl)) dX4_takeArc_86 ?_
      refine lv_iload_n hx hb dX4_takeArc_89 rfl (lv_at hl 2 rfl) ?_
      obtain ⟨h_90, hm⟩ := hm
      refine z_iald hx hb hK hP zI_22 h_90 dX4_takeArc_90 ?_
      refine lv_aload_n hx hb dX4_takeArc_91 rfl (lv_at hl 1 rfl) ?_
      refine zg_4_leastRow hx hb hts i4 hown hK hP (hts _ (List.mem_of_getElem? (i := 4) rfl)) dX4_takeArc_92 ?_
      refine lv_iload_n hx hb dX4_takeArc_95 rfl (lv_at hl 3 rfl) ?_
      obtain ⟨h_96, hm⟩ := hm
      refine z_iald hx hb hK hP zI_22 h_96 dX4_takeArc_96 ?_
      refine lv_icmp_ne (tgt := 103) hx hb dX4_takeArc_97 (by decide) (fun c_97 => ?_) (fun c_97 => ?_)
      · have hm := hm.2 c_97
        refine lv_aload_n hx hb dX4_takeArc_103 rfl (lv_at hl 1 rfl) ?_
        refine lv_iload_n hx hb dX4_takeArc_104 rfl (lv_at hl 2 rfl) ?_
        refine lv_iload_n hx hb dX4_takeArc_105 rfl (lv_at hl 3 rfl) ?_
        refine lv_iload hx hb dX4_takeArc_106 (lv_at hl 0 rfl) ?_
        refine lv_if_eq (tgt := 115) hx hb dX4_takeArc_108 (by decide) (fun c_108 => ?_) (fun c_108 => ?_)
        · have hm := hm.1 c_108
          refine lv_iconst (v := (-1 : Int32)) hx hb dX4_takeArc_115 (by decide) ?_
          exact b116 (-1 : Int32) x3 x2 S _ _ _ hm hP hS (lv_sub hl [1] rfl)
        · have hm := hm.2 c_108
          refine lv_iconst (v := (1 : Int32)) hx hb dX4_takeArc_111 (by decide) ?_
          refine lv_goto (tgt := 116) hx hb dX4_takeArc_112 (by decide) ?_
          exact b116 (1 : Int32) x3 x2 S _ _ _ hm hP hS (lv_sub hl [1] rfl)
      · have hm := hm.1 c_97
        refine lv_iload hx hb dX4_takeArc_100 (lv_at hl 0 rfl) ?_
        exact z_retz hx hb hr hlocks hP hS hm dX4_takeArc_102
    refine lv_istore_n (lv' := [(3, .int t0), (0, .ref (a 2)), (1, .int x1), (2, .int x2)]) hx hb dX4_takeArc_30 rfl hl (by decide) rfl (fun ls hl => ?_)
    refine lv_iload_n hx hb dX4_takeArc_31 rfl (lv_at hl 0 rfl) ?_
    refine lv_iconst (v := (-1 : Int32)) hx hb dX4_takeArc_32 (by decide) ?_
    refine lv_icmp_ne (tgt := 38) hx hb dX4_takeArc_33 (by decide) (fun c_33 => ?_) (fun c_33 => ?_)
    · have hm := hm.2 c_33
      refine lv_aload_n hx hb dX4_takeArc_38 rfl (lv_at hl 1 rfl) ?_
      refine zg_4_signs hx hb hts i4 hown hK hP (hts _ (List.mem_of_getElem? (i := 2) rfl)) dX4_takeArc_39 ?_
      refine lv_iload_n hx hb dX4_takeArc_42 rfl (lv_at hl 3 rfl) ?_
      obtain ⟨h_43, hm⟩ := hm
      refine z_iald hx hb hK hP zI_23 h_43 dX4_takeArc_43 ?_
      refine lv_aload_n hx hb dX4_takeArc_44 rfl (lv_at hl 1 rfl) ?_
      refine zg_4_whole hx hb hts i4 hown hK hP (hts _ (List.mem_of_getElem? (i := 1) rfl)) dX4_takeArc_45 ?_
      refine zg_5_a hx hb hts i5 hown hK hP (hts _ (List.mem_of_getElem? (i := 3) rfl)) dX4_takeArc_48 ?_
      refine lv_iload_n hx hb dX4_takeArc_51 rfl (lv_at hl 3 rfl) ?_
      obtain ⟨h_52, hm⟩ := hm
      refine z_aald hx hb hK hP zQ_13 h_52 dX4_takeArc_52 ?_
      refine lv_iload_n hx hb dX4_takeArc_53 rfl (lv_at hl 2 rfl) ?_
      obtain ⟨h_54, hm⟩ := hm
      refine z_iald hx hb hK hP (zRi_13 h_52) h_54 dX4_takeArc_54 ?_
      refine lv_imul hx hb dX4_takeArc_55 ?_
      refine lv_aload_n hx hb dX4_takeArc_56 rfl (lv_at hl 1 rfl) ?_
      refine zg_4_signs hx hb hts i4 hown hK hP (hts _ (List.mem_of_getElem? (i := 2) rfl)) dX4_takeArc_57 ?_
      refine lv_iload_n hx hb dX4_takeArc_60 rfl (lv_at hl 0 rfl) ?_
      obtain ⟨h_61, hm⟩ := hm
      refine z_iald hx hb hK hP zI_23 h_61 dX4_takeArc_61 ?_
      refine lv_aload_n hx hb dX4_takeArc_62 rfl (lv_at hl 1 rfl) ?_
      refine zg_4_whole hx hb hts i4 hown hK hP (hts _ (List.mem_of_getElem? (i := 1) rfl)) dX4_takeArc_63 ?_
      refine zg_5_a hx hb hts i5 hown hK hP (hts _ (List.mem_of_getElem? (i := 3) rfl)) dX4_takeArc_66 ?_
      refine lv_iload_n hx hb dX4_takeArc_69 rfl (lv_at hl 0 rfl) ?_
      obtain ⟨h_70, hm⟩ := hm
      refine z_aald hx hb hK hP zQ_13 h_70 dX4_takeArc_70 ?_
      refine lv_iload_n hx hb dX4_takeArc_71 rfl (lv_at hl 2 rfl) ?_
      obtain ⟨h_72, hm⟩ := hm
      refine z_iald hx hb hK hP (zRi_13 h_70) h_72 dX4_takeArc_72 ?_
      refine lv_imul hx hb dX4_takeArc_73 ?_
      refine lv_iadd hx hb dX4_takeArc_74 ?_
      refine lv_if_ne (tgt := 82) hx hb dX4_takeArc_75 (by decide) (fun c_75 => ?_) (fun c_75 => ?_)
      · have hm := hm.2 c_75
        refine lv_iconst (v := (0 : Int32)) hx hb dX4_takeArc_82 (by decide) ?_
        exact b83 x2 t0 (0 : Int32) S _ _ _ hm hP hS (lv_sub hl [1, 3, 0] rfl)
      · have hm := hm.1 c_75
        refine lv_iconst (v := (1 : Int32)) hx hb dX4_takeArc_78 (by decide) ?_
        refine lv_goto (tgt := 83) hx hb dX4_takeArc_79 (by decide) ?_
        exact b83 x2 t0 (1 : Int32) S _ _ _ hm hP hS (lv_sub hl [1, 3, 0] rfl)
    · have hm := hm.1 c_33
      refine lv_iconst (v := (1 : Int32)) hx hb dX4_takeArc_36 (by decide) ?_
      exact z_retz hx hb hr hlocks hP hS hm dX4_takeArc_37
  unfold X4_takeArc at hm
  refine lv_aload_n hx hb dX4_takeArc_0 rfl (lv_at hl 0 rfl) ?_
  refine zg_4_whole hx hb hts i4 hown hK hP (hts _ (List.mem_of_getElem? (i := 1) rfl)) dX4_takeArc_1 ?_
  refine lv_iload_n hx hb dX4_takeArc_4 rfl (lv_at hl 1 rfl) ?_
  refine lv_iconst (v := (0 : Int32)) hx hb dX4_takeArc_5 (by decide) ?_
  refine z_cVi (As := [.int y1, .int (0 : Int32)]) (rest := []) hF hK hP hS zO_1 rfl rfl (c_X5_nextTerm l D k a hj y1 (0 : Int32) S _ hm _) (cwV 2 hts gX4_takeArc_X5_nextTerm rfl rfl rfl (by decide +kernel) ⟨Nat.le_of_ble_eq_true rfl, Nat.le_of_ble_eq_true rfl⟩) rfl hl.1 rfl (Nat.le_of_ble_eq_true rfl) dX4_takeArc_6 ⟨Nat.zero_le _, Nat.zero_le _⟩ (fun r_6 S_6 H locs hm hP hS => ?_)
  refine lv_istore_n (lv' := [(2, .int r_6), (0, .ref (a 2)), (1, .int y1)]) hx hb dX4_takeArc_9 rfl hl (by decide) rfl (fun ls hl => ?_)
  refine lv_iload_n hx hb dX4_takeArc_10 rfl (lv_at hl 0 rfl) ?_
  refine lv_iconst (v := (-1 : Int32)) hx hb dX4_takeArc_11 (by decide) ?_
  refine lv_icmp_ne (tgt := 19) hx hb dX4_takeArc_12 (by decide) (fun c_12 => ?_) (fun c_12 => ?_)
  · have hm := hm.2 c_12
    refine lv_aload_n hx hb dX4_takeArc_19 rfl (lv_at hl 1 rfl) ?_
    refine zg_4_whole hx hb hts i4 hown hK hP (hts _ (List.mem_of_getElem? (i := 1) rfl)) dX4_takeArc_20 ?_
    refine lv_iload_n hx hb dX4_takeArc_23 rfl (lv_at hl 2 rfl) ?_
    refine lv_iload_n hx hb dX4_takeArc_24 rfl (lv_at hl 0 rfl) ?_
    refine lv_iconst (v := (1 : Int32)) hx hb dX4_takeArc_25 (by decide) ?_
    refine lv_iadd hx hb dX4_takeArc_26 ?_
    refine z_cVi (As := [.int y1, .int (r_6 + (1 : Int32))]) (rest := []) hF hK hP hS zO_1 rfl rfl (c_X5_nextTerm l D k a hj y1 (r_6 + (1 : Int32)) S_6 _ hm _) (cwV 2 hts gX4_takeArc_X5_nextTerm rfl rfl rfl (by decide +kernel) ⟨Nat.le_of_ble_eq_true rfl, Nat.le_of_ble_eq_true rfl⟩) rfl hl.1 rfl (Nat.le_of_ble_eq_true rfl) dX4_takeArc_27 ⟨Nat.zero_le _, Nat.zero_le _⟩ (fun r_27 S_27 H locs hm hP hS => ?_)
    exact b30 y1 r_6 r_27 S_27 _ _ _ hm hP hS (lv_sub hl [1, 2, 0] rfl)
  · have hm := hm.1 c_12
    refine lv_iconst (v := (-1 : Int32)) hx hb dX4_takeArc_15 (by decide) ?_
    refine lv_goto (tgt := 30) hx hb dX4_takeArc_16 (by decide) ?_
    exact b30 y1 r_6 (-1 : Int32) S_6 _ _ _ hm hP hS (lv_sub hl [1, 2, 0] rfl)

abbrev rm_X4_findSigns : Room := { frames := 3, cells := 0, slots := 0, locals := 71 }
def X4_findSigns_b62 (S : ZS) (Q : Int32 → ZS → Prop) : Prop :=
  Q (-1 : Int32) S
def X4_findSigns_b54 (x1 : Int32) (S : ZS) (Q : Int32 → ZS → Prop) : Prop :=
  Q x1 S
def X4_findSigns_B35 (x1 : Int32) (S : ZS) (Q : Int32 → ZS → Prop) (k35 : Int32 × ZS → Prop) : Prop :=
  ((S.1 1 0) ≤ x1 → X4_findSigns_b62 S Q) ∧ (¬ (S.1 1 0) ≤ x1 → X4_takeArc x1 S (fun r_48 S_48 => (r_48 = 0 → X4_findSigns_b54 x1 S_48 Q) ∧ (¬ r_48 = 0 → ∀ x1_56 : Int32, x1_56 = x1 + (1 : Int32) → k35 (x1_56, S_48))))
def X4_findSigns_L35 (Q : Int32 → ZS → Prop) : (Int32 × ZS) → ((Int32 × ZS) → Prop) → Prop := fun st k35 => X4_findSigns_B35 st.1 st.2 Q k35
def X4_findSigns_b29 (S : ZS) (Q : Int32 → ZS → Prop) : Prop :=
  X4_startAlone S (fun S_30 => zl (X4_findSigns_L35 Q) ((0 : Int32), S_30))
def X4_findSigns_b21 (x1 : Int32) (S : ZS) (Q : Int32 → ZS → Prop) : Prop :=
  Q x1 S
def X4_findSigns_B2 (x1 : Int32) (S : ZS) (Q : Int32 → ZS → Prop) (k2 : Int32 × ZS → Prop) : Prop :=
  ((S.1 1 0) ≤ x1 → X4_findSigns_b29 S Q) ∧ (¬ (S.1 1 0) ≤ x1 → X4_canBeArc x1 S (fun r_15 S_15 => (r_15 = 0 → X4_findSigns_b21 x1 S_15 Q) ∧ (¬ r_15 = 0 → ∀ x1_23 : Int32, x1_23 = x1 + (1 : Int32) → k2 (x1_23, S_15))))
def X4_findSigns_L2 (Q : Int32 → ZS → Prop) : (Int32 × ZS) → ((Int32 × ZS) → Prop) → Prop := fun st k2 => X4_findSigns_B2 st.1 st.2 Q k2
def X4_findSigns (S : ZS) (Q : Int32 → ZS → Prop) : Prop :=
  zl (X4_findSigns_L2 Q) ((0 : Int32), S)
set_option maxHeartbeats 4000000 in
set_option maxRecDepth 100000 in
theorem c_X4_findSigns (l : Launch) (D : va_G) (k : Nat → ClassId) (a : Nat → Nat) (hj : zDj a) (S : ZS) (Q : Int32 → ZS → Prop) (hm : X4_findSigns S Q) (sz : Nat) : Met l yX4_findSigns wsX4_findSigns rm_X4_findSigns (zPc D k a [.ref (a 2)] S sz) (va_Qi Q (zB D k a) (zA a sz)) 0 0 (zA a sz) := by
  refine Met.ofW (cc := cX4_findSigns) (maxL := 2) (ret := (some .int)) (by decide) rfl ?_
  intro p e s m args below meth c s₁ B hml hv
  obtain ⟨rfl, hsz, hP, hK⟩ := hv
  have hx := B.exec
  have hb := B.bytes
  have hr := B.returns
  have hts := atoms_spec (ws := wsX4_findSigns) B.pre
  have hown : s.vm.findClass RX4 = some m.cls := findClass_of_methodNamed B.named
  have hlocks := B.notSynchronized
  subst hsz
  have hS : va_S (zA a s.heap.size) s.heap s.heap [] := va_S.rf
  have hF : CallFix p m c cX4_findSigns 2 s _ wsX4_findSigns RX4 := ⟨hx, hb, hml, hown, hts⟩
  have i4 : ∀ w ∈ wsX40, w ∈ wsX4_findSigns := fun _ h => (List.mem_cons_of_mem _ (List.mem_append_left _ (List.mem_append_right _ h)))
  have i5 : ∀ w ∈ wsX50, w ∈ wsX4_findSigns := fun _ h => (List.mem_cons_of_mem _ (List.mem_append_right _ h))
  have hl := lv_entry ([.ref (a 2)]) (n := 2) (Nat.le_of_ble_eq_true rfl)
  rw [lg_entry_eq]
  generalize (lg_sl ([.ref (a 2)]) ++ List.replicate (2 - (lg_sl ([.ref (a 2)])).length) Slot.unset).toArray = ls at hl ⊢
  have hl : lv_has ls 2 [(0, .ref (a 2))] := hl
  have b29 : ∀ (S : ZS) (H : Heap) (locs : List Loc) (ls : Array Slot), X4_findSigns_b29 S Q → va_P D vwCl (zWS k a S) H → va_S (zA a s.heap.size) s.heap H locs → lv_has ls 2 [(0, .ref (a 2))] → zWi p l e (headSpec wsX4_findSigns rm_X4_findSigns).room s m ([.ref (a 2)] : List Value) below meth c D k a Q H locs (F0 m 29 ls []) := by
    intro S H locs ls hm hP hS hl
    unfold X4_findSigns_b29 at hm
    have b62 : ∀ (S : ZS) (H : Heap) (locs : List Loc) (ls : Array Slot), X4_findSigns_b62 S Q → va_P D vwCl (zWS k a S) H → va_S (zA a s.heap.size) s.heap H locs → lv_has ls 2 [(0, .ref (a 2))] → zWi p l e (headSpec wsX4_findSigns rm_X4_findSigns).room s m ([.ref (a 2)] : List Value) below meth c D k a Q H locs (F0 m 62 ls []) := by
      intro S H locs ls hm hP hS hl
      unfold X4_findSigns_b62 at hm
      refine lv_iconst (v := (-1 : Int32)) hx hb dX4_findSigns_62 (by decide) ?_
      exact z_reti hx hb hr hlocks hP hS hm dX4_findSigns_63
    have b54 : ∀ (x1 : Int32) (S : ZS) (H : Heap) (locs : List Loc) (ls : Array Slot), X4_findSigns_b54 x1 S Q → va_P D vwCl (zWS k a S) H → va_S (zA a s.heap.size) s.heap H locs → lv_has ls 2 [(0, .ref (a 2)), (1, .int x1)] → zWi p l e (headSpec wsX4_findSigns rm_X4_findSigns).room s m ([.ref (a 2)] : List Value) below meth c D k a Q H locs (F0 m 54 ls []) := by
      intro x1 S H locs ls hm hP hS hl
      unfold X4_findSigns_b54 at hm
      refine lv_iload_n hx hb dX4_findSigns_54 rfl (lv_at hl 1 rfl) ?_
      exact z_reti hx hb hr hlocks hP hS hm dX4_findSigns_55
    have L35 : ∀ (n : Nat) (x1 : Int32) (S : ZS) (H : Heap) (locs : List Loc) (ls : Array Slot), zn (X4_findSigns_L35 Q) n (x1, S) → va_P D vwCl (zWS k a S) H → va_S (zA a s.heap.size) s.heap H locs → lv_has ls 2 [(0, .ref (a 2)), (1, .int x1)] → zWi p l e (headSpec wsX4_findSigns rm_X4_findSigns).room s m ([.ref (a 2)] : List Value) below meth c D k a Q H locs (F0 m 35 ls []) := by
      intro n
      induction n with
      | zero =>
        intro x1 S H locs ls hm
        exact hm.elim
      | succ n ih35 =>
        intro x1 S H locs ls hm hP hS hl
        have hm : X4_findSigns_B35 x1 S Q (zn (X4_findSigns_L35 Q) n) := hm
        generalize zn (X4_findSigns_L35 Q) n = k35 at hm ih35
        unfold X4_findSigns_B35 at hm
        refine lv_iload_n hx hb dX4_findSigns_35 rfl (lv_at hl 1 rfl) ?_
        refine lv_aload_n hx hb dX4_findSigns_36 rfl (lv_at hl 0 rfl) ?_
        refine zg_4_whole hx hb hts i4 hown hK hP (hts _ (List.mem_of_getElem? (i := 1) rfl)) dX4_findSigns_37 ?_
        refine zg_5_columns hx hb hts i5 hown hK hP (hts _ (List.mem_of_getElem? (i := 2) rfl)) dX4_findSigns_40 ?_
        refine lv_icmp_ge (tgt := 62) hx hb dX4_findSigns_43 (by decide) (fun c_43 => ?_) (fun c_43 => ?_)
        · have hm := hm.1 c_43
          exact b62  S _ _ _ hm hP hS (lv_sub hl [0] rfl)
        · have hm := hm.2 c_43
          refine lv_aload_n hx hb dX4_findSigns_46 rfl (lv_at hl 0 rfl) ?_
          refine lv_iload_n hx hb dX4_findSigns_47 rfl (lv_at hl 1 rfl) ?_
          refine z_cVi (As := [.int x1]) (rest := []) hF hK hP hS zO_2 rfl rfl (c_X4_takeArc l D k a hj x1 S _ hm _) (cwV 1 hts gX4_findSigns_X4_takeArc rfl rfl rfl (by decide +kernel) ⟨Nat.le_of_ble_eq_true rfl, Nat.le_of_ble_eq_true rfl⟩) rfl hl.1 rfl (Nat.le_of_ble_eq_true rfl) dX4_findSigns_48 ⟨Nat.zero_le _, Nat.zero_le _⟩ (fun r_48 S_48 H locs hm hP hS => ?_)
          refine lv_if_ne (tgt := 56) hx hb dX4_findSigns_51 (by decide) (fun c_51 => ?_) (fun c_51 => ?_)
          · have hm := hm.2 c_51
            obtain ⟨x1_56, ex1_56⟩ : ∃ y : Int32, y = x1 + (1 : Int32) := ⟨_, rfl⟩
            have hm := hm x1_56 ex1_56
            refine lv_iinc (v := x1_56) (lv' := [(1, .int x1_56), (0, .ref (a 2))]) hx hb dX4_findSigns_56 hl (k := 1) rfl (by rw [ex1_56]; rfl) (by decide) rfl (fun ls hl => ?_)
            refine lv_goto (tgt := 35) hx hb dX4_findSigns_59 (by decide) ?_
            exact ih35 x1_56 S_48 _ _ _ hm hP hS (lv_sub hl [1, 0] rfl)
          · have hm := hm.1 c_51
            exact b54 x1 S_48 _ _ _ hm hP hS (lv_sub hl [0, 1] rfl)
    refine lv_aload_n hx hb dX4_findSigns_29 rfl (lv_at hl 0 rfl) ?_
    refine z_cVv (As := []) (rest := []) hF hK hP hS zO_2 rfl rfl (c_X4_startAlone l D k a hj  S _ hm _) (cwV 0 hts gX4_findSigns_X4_startAlone rfl rfl rfl (by decide +kernel) ⟨Nat.le_of_ble_eq_true rfl, Nat.le_of_ble_eq_true rfl⟩) rfl hl.1 rfl (Nat.le_of_ble_eq_true rfl) dX4_findSigns_30 ⟨Nat.zero_le _, Nat.zero_le _⟩ (fun S_30 H locs hm hP hS => ?_)
    refine lv_iconst (v := (0 : Int32)) hx hb dX4_findSigns_33 (by decide) ?_
    refine lv_istore_n (lv' := [(1, .int (0 : Int32)), (0, .ref (a 2))]) hx hb dX4_findSigns_34 rfl hl (by decide) rfl (fun ls hl => ?_)
    obtain ⟨n35, hm⟩ := hm
    exact L35 n35 (0 : Int32) S_30 _ _ _ hm hP hS (lv_sub hl [1, 0] rfl)
  have b21 : ∀ (x1 : Int32) (S : ZS) (H : Heap) (locs : List Loc) (ls : Array Slot), X4_findSigns_b21 x1 S Q → va_P D vwCl (zWS k a S) H → va_S (zA a s.heap.size) s.heap H locs → lv_has ls 2 [(0, .ref (a 2)), (1, .int x1)] → zWi p l e (headSpec wsX4_findSigns rm_X4_findSigns).room s m ([.ref (a 2)] : List Value) below meth c D k a Q H locs (F0 m 21 ls []) := by
    intro x1 S H locs ls hm hP hS hl
    unfold X4_findSigns_b21 at hm
    refine lv_iload_n hx hb dX4_findSigns_21 rfl (lv_at hl 1 rfl) ?_
    exact z_reti hx hb hr hlocks hP hS hm dX4_findSigns_22
  have L2 : ∀ (n : Nat) (x1 : Int32) (S : ZS) (H : Heap) (locs : List Loc) (ls : Array Slot), zn (X4_findSigns_L2 Q) n (x1, S) → va_P D vwCl (zWS k a S) H → va_S (zA a s.heap.size) s.heap H locs → lv_has ls 2 [(0, .ref (a 2)), (1, .int x1)] → zWi p l e (headSpec wsX4_findSigns rm_X4_findSigns).room s m ([.ref (a 2)] : List Value) below meth c D k a Q H locs (F0 m 2 ls []) := by
    intro n
    induction n with
    | zero =>
      intro x1 S H locs ls hm
      exact hm.elim
    | succ n ih2 =>
      intro x1 S H locs ls hm hP hS hl
      have hm : X4_findSigns_B2 x1 S Q (zn (X4_findSigns_L2 Q) n) := hm
      generalize zn (X4_findSigns_L2 Q) n = k2 at hm ih2
      unfold X4_findSigns_B2 at hm
      refine lv_iload_n hx hb dX4_findSigns_2 rfl (lv_at hl 1 rfl) ?_
      refine lv_aload_n hx hb dX4_findSigns_3 rfl (lv_at hl 0 rfl) ?_
      refine zg_4_whole hx hb hts i4 hown hK hP (hts _ (List.mem_of_getElem? (i := 1) rfl)) dX4_findSigns_4 ?_
      refine zg_5_columns hx hb hts i5 hown hK hP (hts _ (List.mem_of_getElem? (i := 2) rfl)) dX4_findSigns_7 ?_
      refine lv_icmp_ge (tgt := 29) hx hb dX4_findSigns_10 (by decide) (fun c_10 => ?_) (fun c_10 => ?_)
      · have hm := hm.1 c_10
        exact b29  S _ _ _ hm hP hS (lv_sub hl [0] rfl)
      · have hm := hm.2 c_10
        refine lv_aload_n hx hb dX4_findSigns_13 rfl (lv_at hl 0 rfl) ?_
        refine lv_iload_n hx hb dX4_findSigns_14 rfl (lv_at hl 1 rfl) ?_
        refine z_cVi (As := [.int x1]) (rest := []) hF hK hP hS zO_2 rfl rfl (c_X4_canBeArc l D k a hj x1 S _ hm _) (cwV 1 hts gX4_findSigns_X4_canBeArc rfl rfl rfl (by decide +kernel) ⟨Nat.le_of_ble_eq_true rfl, Nat.le_of_ble_eq_true rfl⟩) rfl hl.1 rfl (Nat.le_of_ble_eq_true rfl) dX4_findSigns_15 ⟨Nat.zero_le _, Nat.zero_le _⟩ (fun r_15 S_15 H locs hm hP hS => ?_)
        refine lv_if_ne (tgt := 23) hx hb dX4_findSigns_18 (by decide) (fun c_18 => ?_) (fun c_18 => ?_)
        · have hm := hm.2 c_18
          obtain ⟨x1_23, ex1_23⟩ : ∃ y : Int32, y = x1 + (1 : Int32) := ⟨_, rfl⟩
          have hm := hm x1_23 ex1_23
          refine lv_iinc (v := x1_23) (lv' := [(1, .int x1_23), (0, .ref (a 2))]) hx hb dX4_findSigns_23 hl (k := 1) rfl (by rw [ex1_23]; rfl) (by decide) rfl (fun ls hl => ?_)
          refine lv_goto (tgt := 2) hx hb dX4_findSigns_26 (by decide) ?_
          exact ih2 x1_23 S_15 _ _ _ hm hP hS (lv_sub hl [1, 0] rfl)
        · have hm := hm.1 c_18
          exact b21 x1 S_15 _ _ _ hm hP hS (lv_sub hl [0, 1] rfl)
  unfold X4_findSigns at hm
  refine lv_iconst (v := (0 : Int32)) hx hb dX4_findSigns_0 (by decide) ?_
  refine lv_istore_n (lv' := [(1, .int (0 : Int32)), (0, .ref (a 2))]) hx hb dX4_findSigns_1 rfl hl (by decide) rfl (fun ls hl => ?_)
  obtain ⟨n2, hm⟩ := hm
  exact L2 n2 (0 : Int32) S _ _ _ hm hP hS (lv_sub hl [1, 0] rfl)

abbrev rm_X4_isInterval : Room := { frames := 0, cells := 0, slots := 0, locals := 0 }
def X4_isInterval_b74 (t0 : Int32) (S : ZS) (Q : Int32 → ZS → Prop) : Prop :=
  zbit t0 ∧ Q t0 S
def X4_isInterval_b64 (x2 : Int32) (S : ZS) (Q : Int32 → ZS → Prop) : Prop :=
  ((1 : Int32) < x2 → X4_isInterval_b74 (0 : Int32) S Q) ∧ (¬ (1 : Int32) < x2 → X4_isInterval_b74 (1 : Int32) S Q)
def X4_isInterval_b55 (x1 : Int32) (x2 : Int32) (x4 : Int32) (x5 : Int32) (S : ZS) (Q : Int32 → ZS → Prop) (k7 : Int32 × Int32 × Int32 × ZS → Prop) : Prop :=
  ∀ x4_58 : Int32, x4_58 = x4 + (1 : Int32) → k7 (x2, x5, x4_58, S)
def X4_isInterval_b46 (x1 : Int32) (x2 : Int32) (x3 : Int32) (x4 : Int32) (x5 : Int32) (S : ZS) (Q : Int32 → ZS → Prop) (k7 : Int32 × Int32 × Int32 × ZS → Prop) : Prop :=
  (x5 ≤ x3 → X4_isInterval_b55 x1 x2 x4 x5 S Q k7) ∧ (¬ x5 ≤ x3 → ∀ x2_52 : Int32, x2_52 = x2 + (1 : Int32) → X4_isInterval_b55 x1 x2_52 x4 x5 S Q k7)
def X4_isInterval_b44 (S : ZS) (Q : Int32 → ZS → Prop) : Prop :=
  zbit (0 : Int32) ∧ Q (0 : Int32) S
def X4_isInterval_B7 (x1 : Int32) (x2 : Int32) (x3 : Int32) (x4 : Int32) (S : ZS) (Q : Int32 → ZS → Prop) (k7 : Int32 × Int32 × Int32 × ZS → Prop) : Prop :=
  ((S.1 1 1) ≤ x4 → X4_isInterval_b64 x2 S Q) ∧ (¬ (S.1 1 1) ≤ x4 → vp_in x4 8 ∧ vp_in x1 10 ∧ ∀ x5_31 : Int32, x5_31 = (S.1 (14 + (x4).toNatClampNeg) (x1).toNatClampNeg) → (x5_31 = 0 → X4_isInterval_b46 x1 x2 x3 x4 x5_31 S Q k7) ∧ (¬ x5_31 = 0 → (x5_31 = (1 : Int32) → X4_isInterval_b46 x1 x2 x3 x4 x5_31 S Q k7) ∧ (¬ x5_31 = (1 : Int32) → X4_isInterval_b44 S Q)))
def X4_isInterval_L7 (x1 : Int32) (Q : Int32 → ZS → Prop) : (Int32 × Int32 × Int32 × ZS) → ((Int32 × Int32 × Int32 × ZS) → Prop) → Prop := fun st k7 => X4_isInterval_B7 x1 st.1 st.2.1 st.2.2.1 st.2.2.2 Q k7
def X4_isInterval (y1 : Int32) (S : ZS) (Q : Int32 → ZS → Prop) : Prop :=
  zl (X4_isInterval_L7 y1 Q) ((0 : Int32), (0 : Int32), (0 : Int32), S)
set_option maxHeartbeats 4000000 in
set_option maxRecDepth 100000 in
theorem c_X4_isInterval (l : Launch) (D : va_G) (k : Nat → ClassId) (a : Nat → Nat) (hj : zDj a) (y1 : Int32) (S : ZS) (Q : Int32 → ZS → Prop) (hm : X4_isInterval y1 S Q) (sz : Nat) : Met l yX4_isInterval wsX4_isInterval rm_X4_isInterval (zPc D k a [.ref (a 2), .int y1] S sz) (va_Qi Q (zB D k a) (zA a sz)) 0 0 (zA a sz) := by
  refine Met.ofW (cc := cX4_isInterval) (maxL := 6) (ret := (some .boolean)) (by decide) rfl ?_
  intro p e s m args below meth c s₁ B hml hv
  obtain ⟨rfl, hsz, hP, hK⟩ := hv
  have hx := B.exec
  have hb := B.bytes
  have hr := B.returns
  have hts := atoms_spec (ws := wsX4_isInterval) B.pre
  have hown : s.vm.findClass RX4 = some m.cls := findClass_of_methodNamed B.named
  have hlocks := B.notSynchronized
  subst hsz
  have hS : va_S (zA a s.heap.size) s.heap s.heap [] := va_S.rf
  have hF : CallFix p m c cX4_isInterval 6 s _ wsX4_isInterval RX4 := ⟨hx, hb, hml, hown, hts⟩
  have i4 : ∀ w ∈ wsX40, w ∈ wsX4_isInterval := fun _ h => (List.mem_cons_of_mem _ (List.mem_append_left _ (List.mem_append_right _ h)))
  have i5 : ∀ w ∈ wsX50, w ∈ wsX4_isInterval := fun _ h => (List.mem_cons_of_mem _ (List.mem_append_right _ h))
  have hl := lv_entry ([.ref (a 2), .int y1]) (n := 6) (Nat.le_of_ble_eq_true rfl)
  rw [lg_entry_eq]
  generalize (lg_sl ([.ref (a 2), .int y1]) ++ List.replicate (6 - (lg_sl ([.ref (a 2), .int y1])).length) Slot.unset).toArray = ls at hl ⊢
  have hl : lv_has ls 6 [(0, .ref (a 2)), (1, .int y1)] := hl
  have b64 : ∀ (x2 : Int32) (S : ZS) (H : Heap) (locs : List Loc) (ls : Array Slot), X4_isInterval_b64 x2 S Q → va_P D vwCl (zWS k a S) H → va_S (zA a s.heap.size) s.heap H locs → lv_has ls 6 [(0, .ref (a 2)), (2, .int x2)] → zWi p l e (headSpec wsX4_isInterval rm_X4_isInterval).room s m ([.ref (a 2), .int y1] : List Value) below meth c D k a Q H locs (F0 m 64 ls []) := by
    intro x2 S H locs ls hm hP hS hl
    unfold X4_isInterval_b64 at hm
    have b74 : ∀ (t0 : Int32) (S : ZS) (H : Heap) (locs : List Loc) (ls : Array Slot), X4_isInterval_b74 t0 S Q → va_P D vwCl (zWS k a S) H → va_S (zA a s.heap.size) s.heap H locs → lv_has ls 6 [(0, .ref (a 2))] → zWi p l e (headSpec wsX4_isInterval rm_X4_isInterval).room s m ([.ref (a 2), .int y1] : List Value) below meth c D k a Q H locs (F0 m 74 ls [.int t0]) := by
      intro t0 S H locs ls hm hP hS hl
      unfold X4_isInterval_b74 at hm
      exact z_retz hx hb hr hlocks hP hS hm dX4_isInterval_74
    refine lv_iload_n hx hb dX4_isInterval_64 rfl (lv_at hl 1 rfl) ?_
    refine lv_iconst (v := (1 : Int32)) hx hb dX4_isInterval_65 (by decide) ?_
    refine lv_icmp_gt (tgt := 73) hx hb dX4_isInterval_66 (by decide) (fun c_66 => ?_) (fun c_66 => ?_)
    · have hm := hm.1 c_66
      refine lv_iconst (v := (0 : Int32)) hx hb dX4_isInterval_73 (by decide) ?_
      exact b74 (0 : Int32) S _ _ _ hm hP hS (lv_sub hl [0] rfl)
    · have hm := hm.2 c_66
      refine lv_iconst (v := (1 : Int32)) hx hb dX4_isInterval_69 (by decide) ?_
      refine lv_goto (tgt := 74) hx hb dX4_isInterval_70 (by decide) ?_
      exact b74 (1 : Int32) S _ _ _ hm hP hS (lv_sub hl [0] rfl)
  have b44 : ∀ (S : ZS) (H : Heap) (locs : List Loc) (ls : Array Slot), X4_isInterval_b44 S Q → va_P D vwCl (zWS k a S) H → va_S (zA a s.heap.size) s.heap H locs → lv_has ls 6 [(0, .ref (a 2))] → zWi p l e (headSpec wsX4_isInterval rm_X4_isInterval).room s m ([.ref (a 2), .int y1] : List Value) below meth c D k a Q H locs (F0 m 44 ls []) := by
    intro S H locs ls hm hP hS hl
    unfold X4_isInterval_b44 at hm
    refine lv_iconst (v := (0 : Int32)) hx hb dX4_isInterval_44 (by decide) ?_
    exact z_retz hx hb hr hlocks hP hS hm dX4_isInterval_45
  have L7 : ∀ (x1 : Int32) (n : Nat) (x2 : Int32) (x3 : Int32) (x4 : Int32) (S : ZS) (H : Heap) (locs : List Loc) (ls : Array Slot), zn (X4_isInterval_L7 x1 Q) n (x2, x3, x4, S) → va_P D vwCl (zWS k a S) H → va_S (zA a s.heap.size) s.heap H locs → lv_has ls 6 [(0, .ref (a 2)), (1, .int x1), (2, .int x2), (3, .int x3), (4, .int x4)] → zWi p l e (headSpec wsX4_isInterval rm_X4_isInterval).room s m ([.ref (a 2), .int y1] : List Value) below meth c D k a Q H locs (F0 m 7 ls []) := by
    intro x1 n
    induction n with
    | zero =>
      intro x2 x3 x4 S H locs ls hm
      exact hm.elim
    | succ n ih7 =>
      intro x2 x3 x4 S H locs ls hm hP hS hl
      have hm : X4_isInterval_B7 x1 x2 x3 x4 S Q (zn (X4_isInterval_L7 x1 Q) n) := hm
      generalize zn (X4_isInterval_L7 x1 Q) n = k7 at hm ih7
      unfold X4_isInterval_B7 at hm
      have b46 : ∀ (x2 : Int32) (x3 : Int32) (x4 : Int32) (x5 : Int32) (S : ZS) (H : Heap) (locs : List Loc) (ls : Array Slot), X4_isInterval_b46 x1 x2 x3 x4 x5 S Q k7 → va_P D vwCl (zWS k a S) H → va_S (zA a s.heap.size) s.heap H locs → lv_has ls 6 [(0, .ref (a 2)), (1, .int x1), (2, .int x2), (3, .int x3), (4, .int x4), (5, .int x5)] → zWi p l e (headSpec wsX4_isInterval rm_X4_isInterval).room s m ([.ref (a 2), .int y1] : List Value) below meth c D k a Q H locs (F0 m 46 ls []) := by
        intro x2 x3 x4 x5 S H locs ls hm hP hS hl
        unfold X4_isInterval_b46 at hm
        have b55 : ∀ (x2 : Int32) (x4 : Int32) (x5 : Int32) (S : ZS) (H : Heap) (locs : List Loc) (ls : Array Slot), X4_isInterval_b55 x1 x2 x4 x5 S Q k7 → va_P D vwCl (zWS k a S) H → va_S (zA a s.heap.size) s.heap H locs → lv_has ls 6 [(0, .ref (a 2)), (1, .int x1), (2, .int x2), (4, .int x4), (5, .int x5)] → zWi p l e (headSpec wsX4_isInterval rm_X4_isInterval).room s m ([.ref (a 2), .int y1] : List Value) below meth c D k a Q H locs (F0 m 55 ls []) := by
          intro x2 x4 x5 S H locs ls hm hP hS hl
          unfold X4_isInterval_b55 at hm
          refine lv_iload hx hb dX4_isInterval_55 (lv_at hl 4 rfl) ?_
          refine lv_istore_n (lv' := [(3, .int x5), (0, .ref (a 2)), (1, .int x1), (2, .int x2), (4, .int x4), (5, .int x5)]) hx hb dX4_isInterval_57 rfl hl (by decide) rfl (fun ls hl => ?_)
          obtain ⟨x4_58, ex4_58⟩ : ∃ y : Int32, y = x4 + (1 : Int32) := ⟨_, rfl⟩
          have hm := hm x4_58 ex4_58
          refine lv_iinc (v := x4_58) (lv' := [(4, .int x4_58), (3, .int x5), (0, .ref (a 2)), (1, .int x1), (2, .int x2), (5, .int x5)]) hx hb dX4_isInterval_58 hl (k := 4) rfl (by rw [ex4_58]; rfl) (by decide) rfl (fun ls hl => ?_)
          refine lv_goto (tgt := 7) hx hb dX4_isInterval_61 (by decide) ?_
          exact ih7 x2 x5 x4_58 S _ _ _ hm hP hS (lv_sub hl [2, 3, 4, 1, 0] rfl)
        refine lv_iload hx hb dX4_isInterval_46 (lv_at hl 5 rfl) ?_
        refine lv_iload_n hx hb dX4_isInterval_48 rfl (lv_at hl 3 rfl) ?_
        refine lv_icmp_le (tgt := 55) hx hb dX4_isInterval_49 (by decide) (fun c_49 => ?_) (fun c_49 => ?_)
        · have hm := hm.1 c_49
          exact b55 x2 x4 x5 S _ _ _ hm hP hS (lv_sub hl [0, 1, 2, 4, 5] rfl)
        · have hm := hm.2 c_49
          obtain ⟨x2_52, ex2_52⟩ : ∃ y : Int32, y = x2 + (1 : Int32) := ⟨_, rfl⟩
          have hm := hm x2_52 ex2_52
          refine lv_iinc (v := x2_52) (lv' := [(2, .int x2_52), (0, .ref (a 2)), (1, .int x1), (3, .int x3), (4, .int x4), (5, .int x5)]) hx hb dX4_isInterval_52 hl (k := 2) rfl (by rw [ex2_52]; rfl) (by decide) rfl (fun ls hl => ?_)
          exact b55 x2_52 x4 x5 S _ _ _ hm hP hS (lv_sub hl [1, 2, 0, 4, 5] rfl)
      refine lv_iload hx hb dX4_isInterval_7 (lv_at hl 4 rfl) ?_
      refine lv_aload_n hx hb dX4_isInterval_9 rfl (lv_at hl 0 rfl) ?_
      refine zg_4_whole hx hb hts i4 hown hK hP (hts _ (List.mem_of_getElem? (i := 1) rfl)) dX4_isInterval_10 ?_
      refine zg_5_rows hx hb hts i5 hown hK hP (hts _ (List.mem_of_getElem? (i := 2) rfl)) dX4_isInterval_13 ?_
      refine lv_icmp_ge (tgt := 64) hx hb dX4_isInterval_16 (by decide) (fun c_16 => ?_) (fun c_16 => ?_)
      · have hm := hm.1 c_16
        exact b64 x2 S _ _ _ hm hP hS (lv_sub hl [0, 2] rfl)
      · have hm := hm.2 c_16
        refine lv_aload_n hx hb dX4_isInterval_19 rfl (lv_at hl 0 rfl) ?_
        refine zg_4_whole hx hb hts i4 hown hK hP (hts _ (List.mem_of_getElem? (i := 1) rfl)) dX4_isInterval_20 ?_
        refine zg_5_a hx hb hts i5 hown hK hP (hts _ (List.mem_of_getElem? (i := 3) rfl)) dX4_isInterval_23 ?_
        refine lv_iload hx hb dX4_isInterval_26 (lv_at hl 4 rfl) ?_
        obtain ⟨h_28, hm⟩ := hm
        refine z_aald hx hb hK hP zQ_13 h_28 dX4_isInterval_28 ?_
        refine lv_iload_n hx hb dX4_isInterval_29 rfl (lv_at hl 1 rfl) ?_
        obtain ⟨h_30, hm⟩ := hm
        refine z_iald hx hb hK hP (zRi_13 h_28) h_30 dX4_isInterval_30 ?_
        refine lv_topi (fun x5_31 ex5_31 => ?_)
        have hm := hm x5_31 ex5_31
        refine lv_istore (lv' := [(5, .int x5_31), (0, .ref (a 2)), (1, .int x1), (2, .int x2), (3, .int x3), (4, .int x4)]) hx hb dX4_isInterval_31 hl (by decide) rfl (fun ls hl => ?_)
        refine lv_iload hx hb dX4_isInterval_33 (lv_at hl 0 rfl) ?_
        refine lv_if_eq (tgt := 46) hx hb dX4_isInterval_35 (by decide) (fun c_35 => ?_) (fun c_35 => ?_)
        · have hm := hm.1 c_35
          exact b46 x2 x3 x4 x5_31 S _ _ _ hm hP hS (lv_sub hl [1, 2, 3, 4, 5, 0] rfl)
        · have hm := hm.2 c_35
          refine lv_iload hx hb dX4_isInterval_38 (lv_at hl 0 rfl) ?_
          refine lv_iconst (v := (1 : Int32)) hx hb dX4_isInterval_40 (by decide) ?_
          refine lv_icmp_eq (tgt := 46) hx hb dX4_isInterval_41 (by decide) (fun c_41 => ?_) (fun c_41 => ?_)
          · have hm := hm.1 c_41
            exact b46 x2 x3 x4 x5_31 S _ _ _ hm hP hS (lv_sub hl [1, 2, 3, 4, 5, 0] rfl)
          · have hm := hm.2 c_41
            exact b44  S _ _ _ hm hP hS (lv_sub hl [1] rfl)
  unfold X4_isInterval at hm
  refine lv_iconst (v := (0 : Int32)) hx hb dX4_isInterval_0 (by decide) ?_
  refine lv_istore_n (lv' := [(2, .int (0 : Int32)), (0, .ref (a 2)), (1, .int y1)]) hx hb dX4_isInterval_1 rfl hl (by decide) rfl (fun ls hl => ?_)
  refine lv_iconst (v := (0 : Int32)) hx hb dX4_isInterval_2 (by decide) ?_
  refine lv_istore_n (lv' := [(3, .int (0 : Int32)), (2, .int (0 : Int32)), (0, .ref (a 2)), (1, .int y1)]) hx hb dX4_isInterval_3 rfl hl (by decide) rfl (fun ls hl => ?_)
  refine lv_iconst (v := (0 : Int32)) hx hb dX4_isInterval_4 (by decide) ?_
  refine lv_istore (lv' := [(4, .int (0 : Int32)), (3, .int (0 : Int32)), (2, .int (0 : Int32)), (0, .ref (a 2)), (1, .int y1)]) hx hb dX4_isInterval_5 hl (by decide) rfl (fun ls hl => ?_)
  obtain ⟨n7, hm⟩ := hm
  exact L7 y1 n7 (0 : Int32) (0 : Int32) (0 : Int32) S _ _ _ hm hP hS (lv_sub hl [3, 4, 2, 1, 0] rfl)

abbrev rm_X4_firstColumnNoInterval : Room := { frames := 1, cells := 0, slots := 0, locals := 25 }
def X4_firstColumnNoInterval_b29 (S : ZS) (Q : Int32 → ZS → Prop) : Prop :=
  Q (-1 : Int32) S
def X4_firstColumnNoInterval_b21 (x1 : Int32) (S : ZS) (Q : Int32 → ZS → Prop) : Prop :=
  Q x1 S
def X4_firstColumnNoInterval_B2 (x1 : Int32) (S : ZS) (Q : Int32 → ZS → Prop) (k2 : Int32 × ZS → Prop) : Prop :=
  ((S.1 1 0) ≤ x1 → X4_firstColumnNoInterval_b29 S Q) ∧ (¬ (S.1 1 0) ≤ x1 → X4_isInterval x1 S (fun r_15 S_15 => (r_15 = 0 → X4_firstColumnNoInterval_b21 x1 S_15 Q) ∧ (¬ r_15 = 0 → ∀ x1_23 : Int32, x1_23 = x1 + (1 : Int32) → k2 (x1_23, S_15))))
def X4_firstColumnNoInterval_L2 (Q : Int32 → ZS → Prop) : (Int32 × ZS) → ((Int32 × ZS) → Prop) → Prop := fun st k2 => X4_firstColumnNoInterval_B2 st.1 st.2 Q k2
def X4_firstColumnNoInterval (S : ZS) (Q : Int32 → ZS → Prop) : Prop :=
  zl (X4_firstColumnNoInterval_L2 Q) ((0 : Int32), S)
set_option maxHeartbeats 4000000 in
set_option maxRecDepth 100000 in
theorem c_X4_firstColumnNoInterval (l : Launch) (D : va_G) (k : Nat → ClassId) (a : Nat → Nat) (hj : zDj a) (S : ZS) (Q : Int32 → ZS → Prop) (hm : X4_firstColumnNoInterval S Q) (sz : Nat) : Met l yX4_firstColumnNoInterval wsX4_firstColumnNoInterval rm_X4_firstColumnNoInterval (zPc D k a [.ref (a 2)] S sz) (va_Qi Q (zB D k a) (zA a sz)) 0 0 (zA a sz) := by
  refine Met.ofW (cc := cX4_firstColumnNoInterval) (maxL := 2) (ret := (some .int)) (by decide) rfl ?_
  intro p e s m args below meth c s₁ B hml hv
  obtain ⟨rfl, hsz, hP, hK⟩ := hv
  have hx := B.exec
  have hb := B.bytes
  have hr := B.returns
  have hts := atoms_spec (ws := wsX4_firstColumnNoInterval) B.pre
  have hown : s.vm.findClass RX4 = some m.cls := findClass_of_methodNamed B.named
  have hlocks := B.notSynchronized
  subst hsz
  have hS : va_S (zA a s.heap.size) s.heap s.heap [] := va_S.rf
  have hF : CallFix p m c cX4_firstColumnNoInterval 2 s _ wsX4_firstColumnNoInterval RX4 := ⟨hx, hb, hml, hown, hts⟩
  have i4 : ∀ w ∈ wsX40, w ∈ wsX4_firstColumnNoInterval := fun _ h => (List.mem_cons_of_mem _ (List.mem_append_left _ (List.mem_append_right _ h)))
  have i5 : ∀ w ∈ wsX50, w ∈ wsX4_firstColumnNoInterval := fun _ h => (List.mem_cons_of_mem _ (List.mem_append_right _ h))
  have hl := lv_entry ([.ref (a 2)]) (n := 2) (Nat.le_of_ble_eq_true rfl)
  rw [lg_entry_eq]
  generalize (lg_sl ([.ref (a 2)]) ++ List.replicate (2 - (lg_sl ([.ref (a 2)])).length) Slot.unset).toArray = ls at hl ⊢
  have hl : lv_has ls 2 [(0, .ref (a 2))] := hl
  have b29 : ∀ (S : ZS) (H : Heap) (locs : List Loc) (ls : Array Slot), X4_firstColumnNoInterval_b29 S Q → va_P D vwCl (zWS k a S) H → va_S (zA a s.heap.size) s.heap H locs → lv_has ls 2 [(0, .ref (a 2))] → zWi p l e (headSpec wsX4_firstColumnNoInterval rm_X4_firstColumnNoInterval).room s m ([.ref (a 2)] : List Value) below meth c D k a Q H locs (F0 m 29 ls []) := by
    intro S H locs ls hm hP hS hl
    unfold X4_firstColumnNoInterval_b29 at hm
    refine lv_iconst (v := (-1 : Int32)) hx hb dX4_firstColumnNoInterval_29 (by decide) ?_
    exact z_reti hx hb hr hlocks hP hS hm dX4_firstColumnNoInterval_30
  have b21 : ∀ (x1 : Int32) (S : ZS) (H : Heap) (locs : List Loc) (ls : Array Slot), X4_firstColumnNoInterval_b21 x1 S Q → va_P D vwCl (zWS k a S) H → va_S (zA a s.heap.size) s.heap H locs → lv_has ls 2 [(0, .ref (a 2)), (1, .int x1)] → zWi p l e (headSpec wsX4_firstColumnNoInterval rm_X4_firstColumnNoInterval).room s m ([.ref (a 2)] : List Value) below meth c D k a Q H locs (F0 m 21 ls []) := by
    intro x1 S H locs ls hm hP hS hl
    unfold X4_firstColumnNoInterval_b21 at hm
    refine lv_iload_n hx hb dX4_firstColumnNoInterval_21 rfl (lv_at hl 1 rfl) ?_
    exact z_reti hx hb hr hlocks hP hS hm dX4_firstColumnNoInterval_22
  have L2 : ∀ (n : Nat) (x1 : Int32) (S : ZS) (H : Heap) (locs : List Loc) (ls : Array Slot), zn (X4_firstColumnNoInterval_L2 Q) n (x1, S) → va_P D vwCl (zWS k a S) H → va_S (zA a s.heap.size) s.heap H locs → lv_has ls 2 [(0, .ref (a 2)), (1, .int x1)] → zWi p l e (headSpec wsX4_firstColumnNoInterval rm_X4_firstColumnNoInterval).room s m ([.ref (a 2)] : List Value) below meth c D k a Q H locs (F0 m 2 ls []) := by
    intro n
    induction n with
    | zero =>
      intro x1 S H locs ls hm
      exact hm.elim
    | succ n ih2 =>
      intro x1 S H locs ls hm hP hS hl
      have hm : X4_firstColumnNoInterval_B2 x1 S Q (zn (X4_firstColumnNoInterval_L2 Q) n) := hm
      generalize zn (X4_firstColumnNoInterval_L2 Q) n = k2 at hm ih2
      unfold X4_firstColumnNoInterval_B2 at hm
      refine lv_iload_n hx hb dX4_firstColumnNoInterval_2 rfl (lv_at hl 1 rfl) ?_
      refine lv_aload_n hx hb dX4_firstColumnNoInterval_3 rfl (lv_at hl 0 rfl) ?_
      refine zg_4_whole hx hb hts i4 hown hK hP (hts _ (List.mem_of_getElem? (i := 1) rfl)) dX4_firstColumnNoInterval_4 ?_
      refine zg_5_columns hx hb hts i5 hown hK hP (hts _ (List.mem_of_getElem? (i := 2) rfl)) dX4_firstColumnNoInterval_7 ?_
      refine lv_icmp_ge (tgt := 29) hx hb dX4_firstColumnNoInterval_10 (by decide) (fun c_10 => ?_) (fun c_10 => ?_)
      · have hm := hm.1 c_10
        exact b29  S _ _ _ hm hP hS (lv_sub hl [0] rfl)
      · have hm := hm.2 c_10
        refine lv_aload_n hx hb dX4_firstColumnNoInterval_13 rfl (lv_at hl 0 rfl) ?_
        refine lv_iload_n hx hb dX4_firstColumnNoInterval_14 rfl (lv_at hl 1 rfl) ?_
        refine z_cVi (As := [.int x1]) (rest := []) hF hK hP hS zO_2 rfl rfl (c_X4_isInterval l D k a hj x1 S _ hm _) (cwV 1 hts gX4_firstColumnNoInterval_X4_isInterval rfl rfl rfl (by decide +kernel) ⟨Nat.le_of_ble_eq_true rfl, Nat.le_of_ble_eq_true rfl⟩) rfl hl.1 rfl (Nat.le_of_ble_eq_true rfl) dX4_firstColumnNoInterval_15 ⟨Nat.zero_le _, Nat.zero_le _⟩ (fun r_15 S_15 H locs hm hP hS => ?_)
        refine lv_if_ne (tgt := 23) hx hb dX4_firstColumnNoInterval_18 (by decide) (fun c_18 => ?_) (fun c_18 => ?_)
        · have hm := hm.2 c_18
          obtain ⟨x1_23, ex1_23⟩ : ∃ y : Int32, y = x1 + (1 : Int32) := ⟨_, rfl⟩
          have hm := hm x1_23 ex1_23
          refine lv_iinc (v := x1_23) (lv' := [(1, .int x1_23), (0, .ref (a 2))]) hx hb dX4_firstColumnNoInterval_23 hl (k := 1) rfl (by rw [ex1_23]; rfl) (by decide) rfl (fun ls hl => ?_)
          refine lv_goto (tgt := 2) hx hb dX4_firstColumnNoInterval_26 (by decide) ?_
          exact ih2 x1_23 S_15 _ _ _ hm hP hS (lv_sub hl [1, 0] rfl)
        · have hm := hm.1 c_18
          exact b21 x1 S_15 _ _ _ hm hP hS (lv_sub hl [0, 1] rfl)
  unfold X4_firstColumnNoInterval at hm
  refine lv_iconst (v := (0 : Int32)) hx hb dX4_firstColumnNoInterval_0 (by decide) ?_
  refine lv_istore_n (lv' := [(1, .int (0 : Int32)), (0, .ref (a 2))]) hx hb dX4_firstColumnNoInterval_1 rfl hl (by decide) rfl (fun ls hl => ?_)
  obtain ⟨n2, hm⟩ := hm
  exact L2 n2 (0 : Int32) S _ _ _ hm hP hS (lv_sub hl [1, 0] rfl)

abbrev rm_X4_noteSides : Room := { frames := 0, cells := 0, slots := 0, locals := 0 }
def X4_noteSides_b104 (S : ZS) (Q : ZS → Prop) : Prop :=
  Q S
def X4_noteSides_b84 (x1 : Int32) (x2 : Int32) (x3 : Int32) (S : ZS) (Q : ZS → Prop) (k2 : Int32 × ZS → Prop) : Prop :=
  vp_in x1 10 ∧ ∀ S_90 : ZS, S_90 = zu S 24 (x1).toNatClampNeg x2 → vp_in x1 10 ∧ ∀ S_97 : ZS, S_97 = zu S_90 25 (x1).toNatClampNeg x3 → ∀ x1_98 : Int32, x1_98 = x1 + (1 : Int32) → k2 (x1_98, S_97)
def X4_noteSides_b76 (x1 : Int32) (x2 : Int32) (x4 : Int32) (t0 : Int32) (t1 : Int32) (S : ZS) (Q : ZS → Prop) (k2 : Int32 × ZS → Prop) (k20 : Int32 × Int32 × Int32 × ZS → Prop) : Prop :=
  ∀ x3_77 : Int32, x3_77 = (t1 ||| t0) → ∀ x4_78 : Int32, x4_78 = x4 + (1 : Int32) → k20 (x2, x3_77, x4_78, S)
def X4_noteSides_b60 (x1 : Int32) (x3 : Int32) (x4 : Int32) (x5 : Int32) (t0 : Int32) (t1 : Int32) (S : ZS) (Q : ZS → Prop) (k2 : Int32 × ZS → Prop) (k20 : Int32 × Int32 × Int32 × ZS → Prop) : Prop :=
  ∀ x2_61 : Int32, x2_61 = (t1 ||| t0) → (0 ≤ x5 → X4_noteSides_b76 x1 x2_61 x4 (0 : Int32) x3 S Q k2 k20) ∧ (¬ 0 ≤ x5 → X4_noteSides_b76 x1 x2_61 x4 ((1 : Int32) <<< (x4 &&& 31)) x3 S Q k2 k20)
def X4_noteSides_B20 (x1 : Int32) (x2 : Int32) (x3 : Int32) (x4 : Int32) (S : ZS) (Q : ZS → Prop) (k2 : Int32 × ZS → Prop) (k20 : Int32 × Int32 × Int32 × ZS → Prop) : Prop :=
  ((S.1 1 1) ≤ x4 → X4_noteSides_b84 x1 x2 x3 S Q k2) ∧ (¬ (S.1 1 1) ≤ x4 → vp_in x4 8 ∧ vp_in x1 10 ∧ ∀ x5_44 : Int32, x5_44 = (S.1 (14 + (x4).toNatClampNeg) (x1).toNatClampNeg) → (x5_44 ≤ 0 → X4_noteSides_b60 x1 x3 x4 x5_44 (0 : Int32) x2 S Q k2 k20) ∧ (¬ x5_44 ≤ 0 → X4_noteSides_b60 x1 x3 x4 x5_44 ((1 : Int32) <<< (x4 &&& 31)) x2 S Q k2 k20))
def X4_noteSides_L20 (x1 : Int32) (Q : ZS → Prop) (k2 : Int32 × ZS → Prop) : (Int32 × Int32 × Int32 × ZS) → ((Int32 × Int32 × Int32 × ZS) → Prop) → Prop := fun st k20 => X4_noteSides_B20 x1 st.1 st.2.1 st.2.2.1 st.2.2.2 Q k2 k20
def X4_noteSides_B2 (x1 : Int32) (S : ZS) (Q : ZS → Prop) (k2 : Int32 × ZS → Prop) : Prop :=
  ((S.1 1 0) ≤ x1 → X4_noteSides_b104 S Q) ∧ (¬ (S.1 1 0) ≤ x1 → zl (X4_noteSides_L20 x1 Q k2) ((0 : Int32), (0 : Int32), (0 : Int32), S))
def X4_noteSides_L2 (Q : ZS → Prop) : (Int32 × ZS) → ((Int32 × ZS) → Prop) → Prop := fun st k2 => X4_noteSides_B2 st.1 st.2 Q k2
def X4_noteSides (S : ZS) (Q : ZS → Prop) : Prop :=
  zl (X4_noteSides_L2 Q) ((0 : Int32), S)
set_option maxHeartbeats 4000000 in
set_option maxRecDepth 100000 in
theorem c_X4_noteSides (l : Launch) (D : va_G) (k : Nat → ClassId) (a : Nat → Nat) (hj : zDj a) (S : ZS) (Q : ZS → Prop) (hm : X4_noteSides S Q) (sz : Nat) : Met l yX4_noteSides wsX4_noteSides rm_X4_noteSides (zPc D k a [.ref (a 2)] S sz) (va_Qv Q (zB D k a) (zA a sz)) 0 0 (zA a sz) := by
  refine Met.ofW (cc := cX4_noteSides) (maxL := 6) (ret := none) (by decide) rfl ?_
  intro p e s m args below meth c s₁ B hml hv
  obtain ⟨rfl, hsz, hP, hK⟩ := hv
  have hx := B.exec
  have hb := B.bytes
  have hr := B.returns
  have hts := atoms_spec (ws := wsX4_noteSides) B.pre
  have hown : s.vm.findClass RX4 = some m.cls := findClass_of_methodNamed B.named
  have hlocks := B.notSynchronized
  subst hsz
  have hS : va_S (zA a s.heap.size) s.heap s.heap [] := va_S.rf
  have hF : CallFix p m c cX4_noteSides 6 s _ wsX4_noteSides RX4 := ⟨hx, hb, hml, hown, hts⟩
  have i4 : ∀ w ∈ wsX40, w ∈ wsX4_noteSides := fun _ h => (List.mem_cons_of_mem _ (List.mem_append_left _ (List.mem_append_right _ h)))
  have i5 : ∀ w ∈ wsX50, w ∈ wsX4_noteSides := fun _ h => (List.mem_cons_of_mem _ (List.mem_append_right _ h))
  have hl := lv_entry ([.ref (a 2)]) (n := 6) (Nat.le_of_ble_eq_true rfl)
  rw [lg_entry_eq]
  generalize (lg_sl ([.ref (a 2)]) ++ List.replicate (6 - (lg_sl ([.ref (a 2)])).length) Slot.unset).toArray = ls at hl ⊢
  have hl : lv_has ls 6 [(0, .ref (a 2))] := hl
  have b104 : ∀ (S : ZS) (H : Heap) (locs : List Loc) (ls : Array Slot), X4_noteSides_b104 S Q → va_P D vwCl (zWS k a S) H → va_S (zA a s.heap.size) s.heap H locs → lv_has ls 6 [(0, .ref (a 2))] → zWv p l e (headSpec wsX4_noteSides rm_X4_noteSides).room s m ([.ref (a 2)] : List Value) below meth c D k a Q H locs (F0 m 104 ls []) := by
    intro S H locs ls hm hP hS hl
    unfold X4_noteSides_b104 at hm
    exact z_retv hx hb hr hlocks hP hS hm dX4_noteSides_104
  have L2 : ∀ (n : Nat) (x1 : Int32) (S : ZS) (H : Heap) (locs : List Loc) (ls : Array Slot), zn (X4_noteSides_L2 Q) n (x1, S) → va_P D vwCl (zWS k a S) H → va_S (zA a s.heap.size) s.heap H locs → lv_has ls 6 [(0, .ref (a 2)), (1, .int x1)] → zWv p l e (headSpec wsX4_noteSides rm_X4_noteSides).room s m ([.ref (a 2)] : List Value) below meth c D k a Q H locs (F0 m 2 ls []) := by
    intro n
    induction n with
    | zero =>
      intro x1 S H locs ls hm
      exact hm.elim
    | succ n ih2 =>
      intro x1 S H locs ls hm hP hS hl
      have hm : X4_noteSides_B2 x1 S Q (zn (X4_noteSides_L2 Q) n) := hm
      generalize zn (X4_noteSides_L2 Q) n = k2 at hm ih2
      unfold X4_noteSides_B2 at hm
      have b84 : ∀ (x1 : Int32) (x2 : Int32) (x3 : Int32) (S : ZS) (H : Heap) (locs : List Loc) (ls : Array Slot), X4_noteSides_b84 x1 x2 x3 S Q k2 → va_P D vwCl (zWS k a S) H → va_S (zA a s.heap.size) s.heap H locs → lv_has ls 6 [(0, .ref (a 2)), (1, .int x1), (2, .int x2), (3, .int x3)] → zWv p l e (headSpec wsX4_noteSides rm_X4_noteSides).room s m ([.ref (a 2)] : List Value) below meth c D k a Q H locs (F0 m 84 ls []) := by
        intro x1 x2 x3 S H locs ls hm hP hS hl
        unfold X4_noteSides_b84 at hm
        refine lv_aload_n hx hb dX4_noteSides_84 rfl (lv_at hl 0 rfl) ?_
        refine zg_4_rowsAbove hx hb hts i4 hown hK hP (hts _ (List.mem_of_getElem? (i := 5) rfl)) dX4_noteSides_85 ?_
        refine lv_iload_n hx hb dX4_noteSides_88 rfl (lv_at hl 1 rfl) ?_
        refine lv_iload_n hx hb dX4_noteSides_89 rfl (lv_at hl 2 rfl) ?_
        obtain ⟨h_90, hm⟩ := hm
        refine z_iast hx hb hj hK hP hS zI_24 h_90 dX4_noteSides_90 (fun H locs hP hS => ?_)
        obtain ⟨S_90, eS_90⟩ : ∃ z : ZS, z = zu S 24 (x1).toNatClampNeg x2 := ⟨_, rfl⟩
        rw [← eS_90] at hP
        have hm := hm S_90 eS_90
        refine lv_aload_n hx hb dX4_noteSides_91 rfl (lv_at hl 0 rfl) ?_
        refine zg_4_rowsBelow hx hb hts i4 hown hK hP (hts _ (List.mem_of_getElem? (i := 6) rfl)) dX4_noteSides_92 ?_
        refine lv_iload_n hx hb dX4_noteSides_95 rfl (lv_at hl 1 rfl) ?_
        refine lv_iload_n hx hb dX4_noteSides_96 rfl (lv_at hl 3 rfl) ?_
        obtain ⟨h_97, hm⟩ := hm
        refine z_iast hx hb hj hK hP hS zI_25 h_97 dX4_noteSides_97 (fun H locs hP hS => ?_)
        obtain ⟨S_97, eS_97⟩ : ∃ z : ZS, z = zu S_90 25 (x1).toNatClampNeg x3 := ⟨_, rfl⟩
        rw [← eS_97] at hP
        have hm := hm S_97 eS_97
        obtain ⟨x1_98, ex1_98⟩ : ∃ y : Int32, y = x1 + (1 : Int32) := ⟨_, rfl⟩
        have hm := hm x1_98 ex1_98
        refine lv_iinc (v := x1_98) (lv' := [(1, .int x1_98), (0, .ref (a 2)), (2, .int x2), (3, .int x3)]) hx hb dX4_noteSides_98 hl (k := 1) rfl (by rw [ex1_98]; rfl) (by decide) rfl (fun ls hl => ?_)
        refine lv_goto (tgt := 2) hx hb dX4_noteSides_101 (by decide) ?_
        exact ih2 x1_98 S_97 _ _ _ hm hP hS (lv_sub hl [1, 0] rfl)
      have L20 : ∀ (x1 : Int32) (n : Nat) (x2 : Int32) (x3 : Int32) (x4 : Int32) (S : ZS) (H : Heap) (locs : List Loc) (ls : Array Slot), zn (X4_noteSides_L20 x1 Q k2) n (x2, x3, x4, S) → va_P D vwCl (zWS k a S) H → va_S (zA a s.heap.size) s.heap H locs → lv_has ls 6 [(0, .ref (a 2)), (1, .int x1), (2, .int x2), (3, .int x3), (4, .int x4)] → zWv p l e (headSpec wsX4_noteSides rm_X4_noteSides).room s m ([.ref (a 2)] : List Value) below meth c D k a Q H locs (F0 m 20 ls []) := by
        intro x1 n
        induction n with
        | zero =>
          intro x2 x3 x4 S H locs ls hm
          exact hm.elim
        | succ n ih20 =>
          intro x2 x3 x4 S H locs ls hm hP hS hl
          have hm : X4_noteSides_B20 x1 x2 x3 x4 S Q k2 (zn (X4_noteSides_L20 x1 Q k2) n) := hm
          generalize zn (X4_noteSides_L20 x1 Q k2) n = k20 at hm ih20
          unfold X4_noteSides_B20 at hm
          have b60 : ∀ (x3 : Int32) (x4 : Int32) (x5 : Int32) (t0 : Int32) (t1 : Int32) (S : ZS) (H : Heap) (locs : List Loc) (ls : Array Slot), X4_noteSides_b60 x1 x3 x4 x5 t0 t1 S Q k2 k20 → va_P D vwCl (zWS k a S) H → va_S (zA a s.heap.size) s.heap H locs → lv_has ls 6 [(0, .ref (a 2)), (1, .int x1), (3, .int x3), (4, .int x4), (5, .int x5)] → zWv p l e (headSpec wsX4_noteSides rm_X4_noteSides).room s m ([.ref (a 2)] : List Value) below meth c D k a Q H locs (F0 m 60 ls [.int t0, .int t1]) := by
            intro x3 x4 x5 t0 t1 S H locs ls hm hP hS hl
            unfold X4_noteSides_b60 at hm
            have b76 : ∀ (x2 : Int32) (x4 : Int32) (t0 : Int32) (t1 : Int32) (S : ZS) (H : Heap) (locs : List Loc) (ls : Array Slot), X4_noteSides_b76 x1 x2 x4 t0 t1 S Q k2 k20 → va_P D vwCl (zWS k a S) H → va_S (zA a s.heap.size) s.heap H locs → lv_has ls 6 [(0, .ref (a 2)), (1, .int x1), (2, .int x2), (4, .int x4)] → zWv p l e (headSpec wsX4_noteSides rm_X4_noteSides).room s m ([.ref (a 2)] : List Value) below meth c D k a Q H locs (F0 m 76 ls [.int t0, .int t1]) := by
              intro x2 x4 t0 t1 S H locs ls hm hP hS hl
              unfold X4_noteSides_b76 at hm
              refine lv_ior hx hb dX4_noteSides_76 ?_
              refine lv_topi (fun x3_77 ex3_77 => ?_)
              have hm := hm x3_77 ex3_77
              refine lv_istore_n (lv' := [(3, .int x3_77), (0, .ref (a 2)), (1, .int x1), (2, .int x2), (4, .int x4)]) hx hb dX4_noteSides_77 rfl hl (by decide) rfl (fun ls hl => ?_)
              obtain ⟨x4_78, ex4_78⟩ : ∃ y : Int32, y = x4 + (1 : Int32) := ⟨_, rfl⟩
              have hm := hm x4_78 ex4_78
              refine lv_iinc (v := x4_78) (lv' := [(4, .int x4_78), (3, .int x3_77), (0, .ref (a 2)), (1, .int x1), (2, .int x2)]) hx hb dX4_noteSides_78 hl (k := 4) rfl (by rw [ex4_78]; rfl) (by decide) rfl (fun ls hl => ?_)
              refine lv_goto (tgt := 20) hx hb dX4_noteSides_81 (by decide) ?_
              exact ih20 x2 x3_77 x4_78 S _ _ _ hm hP hS (lv_sub hl [2, 3, 4, 1, 0] rfl)
            refine lv_ior hx hb dX4_noteSides_60 ?_
            refine lv_topi (fun x2_61 ex2_61 => ?_)
            have hm := hm x2_61 ex2_61
            refine lv_istore_n (lv' := [(2, .int x2_61), (0, .ref (a 2)), (1, .int x1), (3, .int x3), (4, .int x4), (5, .int x5)]) hx hb dX4_noteSides_61 rfl hl (by decide) rfl (fun ls hl => ?_)
            refine lv_iload_n hx hb dX4_noteSides_62 rfl (lv_at hl 3 rfl) ?_
            refine lv_iload hx hb dX4_noteSides_63 (lv_at hl 5 rfl) ?_
            refine lv_if_ge (tgt := 75) hx hb dX4_noteSides_65 (by decide) (fun c_65 => ?_) (fun c_65 => ?_)
            · have hm := hm.1 c_65
              refine lv_iconst (v := (0 : Int32)) hx hb dX4_noteSides_75 (by decide) ?_
              exact b76 x2_61 x4 (0 : Int32) x3 S _ _ _ hm hP hS (lv_sub hl [1, 2, 0, 4] rfl)
            · have hm := hm.2 c_65
              refine lv_iconst (v := (1 : Int32)) hx hb dX4_noteSides_68 (by decide) ?_
              refine lv_iload hx hb dX4_noteSides_69 (lv_at hl 4 rfl) ?_
              refine lv_ishl hx hb dX4_noteSides_71 ?_
              refine lv_goto (tgt := 76) hx hb dX4_noteSides_72 (by decide) ?_
              exact b76 x2_61 x4 ((1 : Int32) <<< (x4 &&& 31)) x3 S _ _ _ hm hP hS (lv_sub hl [1, 2, 0, 4] rfl)
          refine lv_iload hx hb dX4_noteSides_20 (lv_at hl 4 rfl) ?_
          refine lv_aload_n hx hb dX4_noteSides_22 rfl (lv_at hl 0 rfl) ?_
          refine zg_4_whole hx hb hts i4 hown hK hP (hts _ (List.mem_of_getElem? (i := 1) rfl)) dX4_noteSides_23 ?_
          refine zg_5_rows hx hb hts i5 hown hK hP (hts _ (List.mem_of_getElem? (i := 3) rfl)) dX4_noteSides_26 ?_
          refine lv_icmp_ge (tgt := 84) hx hb dX4_noteSides_29 (by decide) (fun c_29 => ?_) (fun c_29 => ?_)
          · have hm := hm.1 c_29
            exact b84 x1 x2 x3 S _ _ _ hm hP hS (lv_sub hl [0, 1, 2, 3] rfl)
          · have hm := hm.2 c_29
            refine lv_aload_n hx hb dX4_noteSides_32 rfl (lv_at hl 0 rfl) ?_
            refine zg_4_whole hx hb hts i4 hown hK hP (hts _ (List.mem_of_getElem? (i := 1) rfl)) dX4_noteSides_33 ?_
            refine zg_5_a hx hb hts i5 hown hK hP (hts _ (List.mem_of_getElem? (i := 4) rfl)) dX4_noteSides_36 ?_
            refine lv_iload hx hb dX4_noteSides_39 (lv_at hl 4 rfl) ?_
            obtain ⟨h_41, hm⟩ := hm
            refine z_aald hx hb hK hP zQ_13 h_41 dX4_noteSides_41 ?_
            refine lv_iload_n hx hb dX4_noteSides_42 rfl (lv_at hl 1 rfl) ?_
            obtain ⟨h_43, hm⟩ := hm
            refine z_iald hx hb hK hP (zRi_13 h_41) h_43 dX4_noteSides_43 ?_
            refine lv_topi (fun x5_44 ex5_44 => ?_)
            have hm := hm x5_44 ex5_44
            refine lv_istore (lv' := [(5, .int x5_44), (0, .ref (a 2)), (1, .int x1), (2, .int x2), (3, .int x3), (4, .int x4)]) hx hb dX4_noteSides_44 hl (by decide) rfl (fun ls hl => ?_)
            refine lv_iload_n hx hb dX4_noteSides_46 rfl (lv_at hl 3 rfl) ?_
            refine lv_iload hx hb dX4_noteSides_47 (lv_at hl 0 rfl) ?_
            refine lv_if_le (tgt := 59) hx hb dX4_noteSides_49 (by decide) (fun c_49 => ?_) (fun c_49 => ?_)
            · have hm := hm.1 c_49
              refine lv_iconst (v := (0 : Int32)) hx hb dX4_noteSides_59 (by decide) ?_
              exact b60 x3 x4 x5_44 (0 : Int32) x2 S _ _ _ hm hP hS (lv_sub hl [1, 2, 4, 5, 0] rfl)
            · have hm := hm.2 c_49
              refine lv_iconst (v := (1 : Int32)) hx hb dX4_noteSides_52 (by decide) ?_
              refine lv_iload hx hb dX4_noteSides_53 (lv_at hl 5 rfl) ?_
              refine lv_ishl hx hb dX4_noteSides_55 ?_
              refine lv_goto (tgt := 60) hx hb dX4_noteSides_56 (by decide) ?_
              exact b60 x3 x4 x5_44 ((1 : Int32) <<< (x4 &&& 31)) x2 S _ _ _ hm hP hS (lv_sub hl [1, 2, 4, 5, 0] rfl)
      refine lv_iload_n hx hb dX4_noteSides_2 rfl (lv_at hl 1 rfl) ?_
      refine lv_aload_n hx hb dX4_noteSides_3 rfl (lv_at hl 0 rfl) ?_
      refine zg_4_whole hx hb hts i4 hown hK hP (hts _ (List.mem_of_getElem? (i := 1) rfl)) dX4_noteSides_4 ?_
      refine zg_5_columns hx hb hts i5 hown hK hP (hts _ (List.mem_of_getElem? (i := 2) rfl)) dX4_noteSides_7 ?_
      refine lv_icmp_ge (tgt := 104) hx hb dX4_noteSides_10 (by decide) (fun c_10 => ?_) (fun c_10 => ?_)
      · have hm := hm.1 c_10
        exact b104  S _ _ _ hm hP hS (lv_sub hl [0] rfl)
      · have hm := hm.2 c_10
        refine lv_iconst (v := (0 : Int32)) hx hb dX4_noteSides_13 (by decide) ?_
        refine lv_istore_n (lv' := [(2, .int (0 : Int32)), (0, .ref (a 2)), (1, .int x1)]) hx hb dX4_noteSides_14 rfl hl (by decide) rfl (fun ls hl => ?_)
        refine lv_iconst (v := (0 : Int32)) hx hb dX4_noteSides_15 (by decide) ?_
        refine lv_istore_n (lv' := [(3, .int (0 : Int32)), (2, .int (0 : Int32)), (0, .ref (a 2)), (1, .int x1)]) hx hb dX4_noteSides_16 rfl hl (by decide) rfl (fun ls hl => ?_)
        refine lv_iconst (v := (0 : Int32)) hx hb dX4_noteSides_17 (by decide) ?_
        refine lv_istore (lv' := [(4, .int (0 : Int32)), (3, .int (0 : Int32)), (2, .int (0 : Int32)), (0, .ref (a 2)), (1, .int x1)]) hx hb dX4_noteSides_18 hl (by decide) rfl (fun ls hl => ?_)
        obtain ⟨n20, hm⟩ := hm
        exact L20 x1 n20 (0 : Int32) (0 : Int32) (0 : Int32) S _ _ _ hm hP hS (lv_sub hl [3, 4, 2, 1, 0] rfl)
  unfold X4_noteSides at hm
  refine lv_iconst (v := (0 : Int32)) hx hb dX4_noteSides_0 (by decide) ?_
  refine lv_istore_n (lv' := [(1, .int (0 : Int32)), (0, .ref (a 2))]) hx hb dX4_noteSides_1 rfl hl (by decide) rfl (fun ls hl => ?_)
  obtain ⟨n2, hm⟩ := hm
  exact L2 n2 (0 : Int32) S _ _ _ hm hP hS (lv_sub hl [1, 0] rfl)

abbrev rm_X4_hasUnitTerms : Room := { frames := 1, cells := 0, slots := 0, locals := 21 }
def X4_hasUnitTerms_b39 (S : ZS) (Q : Int32 → ZS → Prop) : Prop :=
  zbit (1 : Int32) ∧ Q (1 : Int32) S
def X4_hasUnitTerms_b31 (S : ZS) (Q : Int32 → ZS → Prop) : Prop :=
  zbit (0 : Int32) ∧ Q (0 : Int32) S
def X4_hasUnitTerms_B2 (x1 : Int32) (x2 : Int32) (S : ZS) (Q : Int32 → ZS → Prop) (k2 : Int32 × ZS → Prop) : Prop :=
  ((S.1 1 0) ≤ x2 → X4_hasUnitTerms_b39 S Q) ∧ (¬ (S.1 1 0) ≤ x2 → vp_in x1 8 ∧ vp_in x2 10 ∧ X6_isWithin (S.1 (14 + (x1).toNatClampNeg) (x2).toNatClampNeg) (1 : Int32) S (fun r_25 S_25 => (r_25 = 0 → X4_hasUnitTerms_b31 S_25 Q) ∧ (¬ r_25 = 0 → ∀ x2_33 : Int32, x2_33 = x2 + (1 : Int32) → k2 (x2_33, S_25))))
def X4_hasUnitTerms_L2 (x1 : Int32) (Q : Int32 → ZS → Prop) : (Int32 × ZS) → ((Int32 × ZS) → Prop) → Prop := fun st k2 => X4_hasUnitTerms_B2 x1 st.1 st.2 Q k2
def X4_hasUnitTerms (y1 : Int32) (S : ZS) (Q : Int32 → ZS → Prop) : Prop :=
  zl (X4_hasUnitTerms_L2 y1 Q) ((0 : Int32), S)
set_option maxHeartbeats 4000000 in
set_option maxRecDepth 100000 in
theorem c_X4_hasUnitTerms (l : Launch) (D : va_G) (k : Nat → ClassId) (a : Nat → Nat) (hj : zDj a) (y1 : Int32) (S : ZS) (Q : Int32 → ZS → Prop) (hm : X4_hasUnitTerms y1 S Q) (sz : Nat) : Met l yX4_hasUnitTerms wsX4_hasUnitTerms rm_X4_hasUnitTerms (zPc D k a [.ref (a 2), .int y1] S sz) (va_Qi Q (zB D k a) (zA a sz)) 0 0 (zA a sz) := by
  refine Met.ofW (cc := cX4_hasUnitTerms) (maxL := 3) (ret := (some .boolean)) (by decide) rfl ?_
  intro p e s m args below meth c s₁ B hml hv
  obtain ⟨rfl, hsz, hP, hK⟩ := hv
  have hx := B.exec
  have hb := B.bytes
  have hr := B.returns
  have hts := atoms_spec (ws := wsX4_hasUnitTerms) B.pre
  have hown : s.vm.findClass RX4 = some m.cls := findClass_of_methodNamed B.named
  have hlocks := B.notSynchronized
  subst hsz
  have hS : va_S (zA a s.heap.size) s.heap s.heap [] := va_S.rf
  have hF : CallFix p m c cX4_hasUnitTerms 3 s _ wsX4_hasUnitTerms RX4 := ⟨hx, hb, hml, hown, hts⟩
  have i4 : ∀ w ∈ wsX40, w ∈ wsX4_hasUnitTerms := fun _ h => (List.mem_cons_of_mem _ (List.mem_append_left _ (List.mem_append_right _ h)))
  have i5 : ∀ w ∈ wsX50, w ∈ wsX4_hasUnitTerms := fun _ h => (List.mem_cons_of_mem _ (List.mem_append_right _ h))
  have hl := lv_entry ([.ref (a 2), .int y1]) (n := 3) (Nat.le_of_ble_eq_true rfl)
  rw [lg_entry_eq]
  generalize (lg_sl ([.ref (a 2), .int y1]) ++ List.replicate (3 - (lg_sl ([.ref (a 2), .int y1])).length) Slot.unset).toArray = ls at hl ⊢
  have hl : lv_has ls 3 [(0, .ref (a 2)), (1, .int y1)] := hl
  have b39 : ∀ (S : ZS) (H : Heap) (locs : List Loc) (ls : Array Slot), X4_hasUnitTerms_b39 S Q → va_P D vwCl (zWS k a S) H → va_S (zA a s.heap.size) s.heap H locs → lv_has ls 3 [(0, .ref (a 2))] → zWi p l e (headSpec wsX4_hasUnitTerms rm_X4_hasUnitTerms).room s m ([.ref (a 2), .int y1] : List Value) below meth c D k a Q H locs (F0 m 39 ls []) := by
    intro S H locs ls hm hP hS hl
    unfold X4_hasUnitTerms_b39 at hm
    refine lv_iconst (v := (1 : Int32)) hx hb dX4_hasUnitTerms_39 (by decide) ?_
    exact z_retz hx hb hr hlocks hP hS hm dX4_hasUnitTerms_40
  have b31 : ∀ (S : ZS) (H : Heap) (locs : List Loc) (ls : Array Slot), X4_hasUnitTerms_b31 S Q → va_P D vwCl (zWS k a S) H → va_S (zA a s.heap.size) s.heap H locs → lv_has ls 3 [(0, .ref (a 2))] → zWi p l e (headSpec wsX4_hasUnitTerms rm_X4_hasUnitTerms).room s m ([.ref (a 2), .int y1] : List Value) below meth c D k a Q H locs (F0 m 31 ls []) := by
    intro S H locs ls hm hP hS hl
    unfold X4_hasUnitTerms_b31 at hm
    refine lv_iconst (v := (0 : Int32)) hx hb dX4_hasUnitTerms_31 (by decide) ?_
    exact z_retz hx hb hr hlocks hP hS hm dX4_hasUnitTerms_32
  have L2 : ∀ (x1 : Int32) (n : Nat) (x2 : Int32) (S : ZS) (H : Heap) (locs : List Loc) (ls : Array Slot), zn (X4_hasUnitTerms_L2 x1 Q) n (x2, S) → va_P D vwCl (zWS k a S) H → va_S (zA a s.heap.size) s.heap H locs → lv_has ls 3 [(0, .ref (a 2)), (1, .int x1), (2, .int x2)] → zWi p l e (headSpec wsX4_hasUnitTerms rm_X4_hasUnitTerms).room s m ([.ref (a 2), .int y1] : List Value) below meth c D k a Q H locs (F0 m 2 ls []) := by
    intro x1 n
    induction n with
    | zero =>
      intro x2 S H locs ls hm
      exact hm.elim
    | succ n ih2 =>
      intro x2 S H locs ls hm hP hS hl
      have hm : X4_hasUnitTerms_B2 x1 x2 S Q (zn (X4_hasUnitTerms_L2 x1 Q) n) := hm
      generalize zn (X4_hasUnitTerms_L2 x1 Q) n = k2 at hm ih2
      unfold X4_hasUnitTerms_B2 at hm
      refine lv_iload_n hx hb dX4_hasUnitTerms_2 rfl (lv_at hl 2 rfl) ?_
      refine lv_aload_n hx hb dX4_hasUnitTerms_3 rfl (lv_at hl 0 rfl) ?_
      refine zg_4_whole hx hb hts i4 hown hK hP (hts _ (List.mem_of_getElem? (i := 1) rfl)) dX4_hasUnitTerms_4 ?_
      refine zg_5_columns hx hb hts i5 hown hK hP (hts _ (List.mem_of_getElem? (i := 2) rfl)) dX4_hasUnitTerms_7 ?_
      refine lv_icmp_ge (tgt := 39) hx hb dX4_hasUnitTerms_10 (by decide) (fun c_10 => ?_) (fun c_10 => ?_)
      · have hm := hm.1 c_10
        exact b39  S _ _ _ hm hP hS (lv_sub hl [0] rfl)
      · have hm := hm.2 c_10
        refine lv_aload_n hx hb dX4_hasUnitTerms_13 rfl (lv_at hl 0 rfl) ?_
        refine zg_4_whole hx hb hts i4 hown hK hP (hts _ (List.mem_of_getElem? (i := 1) rfl)) dX4_hasUnitTerms_14 ?_
        refine zg_5_a hx hb hts i5 hown hK hP (hts _ (List.mem_of_getElem? (i := 3) rfl)) dX4_hasUnitTerms_17 ?_
        refine lv_iload_n hx hb dX4_hasUnitTerms_20 rfl (lv_at hl 1 rfl) ?_
        obtain ⟨h_21, hm⟩ := hm
        refine z_aald hx hb hK hP zQ_13 h_21 dX4_hasUnitTerms_21 ?_
        refine lv_iload_n hx hb dX4_hasUnitTerms_22 rfl (lv_at hl 2 rfl) ?_
        obtain ⟨h_23, hm⟩ := hm
        refine z_iald hx hb hK hP (zRi_13 h_21) h_23 dX4_hasUnitTerms_23 ?_
        refine lv_iconst (v := (1 : Int32)) hx hb dX4_hasUnitTerms_24 (by decide) ?_
        refine z_cNi (As := [.int (S.1 (14 + (x1).toNatClampNeg) (x2).toNatClampNeg), .int (1 : Int32)]) (rest := []) hF hK hP hS (c_X6_isWithin l D k a hj (S.1 (14 + (x1).toNatClampNeg) (x2).toNatClampNeg) (1 : Int32) S _ hm _) ⟨va_cnB 2 hts gX4_hasUnitTerms_X6_isWithin_n111 rfl rfl rfl hK.2 (hts (.initialized RX6) (List.mem_of_getElem? (i := 5) rfl)) (by decide +kernel) ⟨Nat.le_of_ble_eq_true rfl, Nat.le_of_ble_eq_true rfl⟩, hts _ (List.mem_of_getElem? (i := 4) rfl), trivial⟩ rfl hl.1 rfl (Nat.le_of_ble_eq_true rfl) dX4_hasUnitTerms_25 ⟨Nat.zero_le _, Nat.zero_le _⟩ (fun r_25 S_25 H locs hm hP hS => ?_)
        refine lv_if_ne (tgt := 33) hx hb dX4_hasUnitTerms_28 (by decide) (fun c_28 => ?_) (fun c_28 => ?_)
        · have hm := hm.2 c_28
          obtain ⟨x2_33, ex2_33⟩ : ∃ y : Int32, y = x2 + (1 : Int32) := ⟨_, rfl⟩
          have hm := hm x2_33 ex2_33
          refine lv_iinc (v := x2_33) (lv' := [(2, .int x2_33), (0, .ref (a 2)), (1, .int x1)]) hx hb dX4_hasUnitTerms_33 hl (k := 2) rfl (by rw [ex2_33]; rfl) (by decide) rfl (fun ls hl => ?_)
          refine lv_goto (tgt := 2) hx hb dX4_hasUnitTerms_36 (by decide) ?_
          exact ih2 x2_33 S_25 _ _ _ hm hP hS (lv_sub hl [1, 2, 0] rfl)
        · have hm := hm.1 c_28
          exact b31  S_25 _ _ _ hm hP hS (lv_sub hl [0] rfl)
  unfold X4_hasUnitTerms at hm
  refine lv_iconst (v := (0 : Int32)) hx hb dX4_hasUnitTerms_0 (by decide) ?_
  refine lv_istore_n (lv' := [(2, .int (0 : Int32)), (0, .ref (a 2)), (1, .int y1)]) hx hb dX4_hasUnitTerms_1 rfl hl (by decide) rfl (fun ls hl => ?_)
  obtain ⟨n2, hm⟩ := hm
  exact L2 y1 n2 (0 : Int32) S _ _ _ hm hP hS (lv_sub hl [1, 2, 0] rfl)

abbrev rm_X4_isParting : Room := { frames := 1, cells := 0, slots := 0, locals := 21 }
def X4_isParting_b77 (S : ZS) (Q : Int32 → ZS → Prop) : Prop :=
  zbit (1 : Int32) ∧ Q (1 : Int32) S
def X4_isParting_b69 (S : ZS) (Q : Int32 → ZS → Prop) : Prop :=
  zbit (0 : Int32) ∧ Q (0 : Int32) S
def X4_isParting_B2 (x1 : Int32) (x2 : Int32) (x3 : Int32) (S : ZS) (Q : Int32 → ZS → Prop) (k2 : Int32 × ZS → Prop) : Prop :=
  ((S.1 1 0) ≤ x3 → X4_isParting_b77 S Q) ∧ (¬ (S.1 1 0) ≤ x3 → vp_in x3 10 ∧ ∀ x4_19 : Int32, x4_19 = (S.1 24 (x3).toNatClampNeg) → vp_in x3 10 ∧ ∀ x5_27 : Int32, x5_27 = (S.1 25 (x3).toNatClampNeg) → J6_bitCount_0f7a4 ((x4_19 &&& x1) ||| (x5_27 &&& x2)) S (fun r_38 S_38 => J6_bitCount_0f7a4 ((x4_19 &&& x2) ||| (x5_27 &&& x1)) S_38 (fun r_52 S_52 => X6_isWithin (r_38 - r_52) (1 : Int32) S_52 (fun r_63 S_63 => (r_63 = 0 → X4_isParting_b69 S_63 Q) ∧ (¬ r_63 = 0 → ∀ x3_71 : Int32, x3_71 = x3 + (1 : Int32) → k2 (x3_71, S_63))))))
def X4_isParting_L2 (x1 : Int32) (x2 : Int32) (Q : Int32 → ZS → Prop) : (Int32 × ZS) → ((Int32 × ZS) → Prop) → Prop := fun st k2 => X4_isParting_B2 x1 x2 st.1 st.2 Q k2
def X4_isParting (y1 : Int32) (y2 : Int32) (S : ZS) (Q : Int32 → ZS → Prop) : Prop :=
  zl (X4_isParting_L2 y1 y2 Q) ((0 : Int32), S)
set_option maxHeartbeats 4000000 in
set_option maxRecDepth 100000 in
theorem c_X4_isParting (l : Launch) (D : va_G) (k : Nat → ClassId) (a : Nat → Nat) (hj : zDj a) (y1 : Int32) (y2 : Int32) (S : ZS) (Q : Int32 → ZS → Prop) (hm : X4_isParting y1 y2 S Q) (sz : Nat) : Met l yX4_isParting wsX4_isParting rm_X4_isParting (zPc D k a [.ref (a 2), .int y1, .int y2] S sz) (va_Qi Q (zB D k a) (zA a sz)) 0 0 (zA a sz) := by
  refine Met.ofW (cc := cX4_isParting) (maxL := 8) (ret := (some .boolean)) (by decide) rfl ?_
  intro p e s m args below meth c s₁ B hml hv
  obtain ⟨rfl, hsz, hP, hK⟩ := hv
  have hx := B.exec
  have hb := B.bytes
  have hr := B.returns
  have hts := atoms_spec (ws := wsX4_isParting) B.pre
  have hown : s.vm.findClass RX4 = some m.cls := findClass_of_methodNamed B.named
  have hlocks := B.notSynchronized
  subst hsz
  have hS : va_S (zA a s.heap.size) s.heap s.heap [] := va_S.rf
  have hF : CallFix p m c cX4_isParting 8 s _ wsX4_isParting RX4 := ⟨hx, hb, hml, hown, hts⟩
  have i4 : ∀ w ∈ wsX40, w ∈ wsX4_isParting := fun _ h => (List.mem_cons_of_mem _ (List.mem_append_left _ (List.mem_append_right _ h)))
  have i5 : ∀ w ∈ wsX50, w ∈ wsX4_isParting := fun _ h => (List.mem_cons_of_mem _ (List.mem_append_right _ h))
  have hl := lv_entry ([.ref (a 2), .int y1, .int y2]) (n := 8) (Nat.le_of_ble_eq_true rfl)
  rw [lg_entry_eq]
  generalize (lg_sl ([.ref (a 2), .int y1, .int y2]) ++ List.replicate (8 - (lg_sl ([.ref (a 2), .int y1, .int y2])).length) Slot.unset).toArray = ls at hl ⊢
  have hl : lv_has ls 8 [(0, .ref (a 2)), (1, .int y1), (2, .int y2)] := hl
  have b77 : ∀ (S : ZS) (H : Heap) (locs : List Loc) (ls : Array Slot), X4_isParting_b77 S Q → va_P D vwCl (zWS k a S) H → va_S (zA a s.heap.size) s.heap H locs → lv_has ls 8 [(0, .ref (a 2))] → zWi p l e (headSpec wsX4_isParting rm_X4_isParting).room s m ([.ref (a 2), .int y1, .int y2] : List Value) below meth c D k a Q H locs (F0 m 77 ls []) := by
    intro S H locs ls hm hP hS hl
    unfold X4_isParting_b77 at hm
    refine lv_iconst (v := (1 : Int32)) hx hb dX4_isParting_77 (by decide) ?_
    exact z_retz hx hb hr hlocks hP hS hm dX4_isParting_78
  have b69 : ∀ (S : ZS) (H : Heap) (locs : List Loc) (ls : Array Slot), X4_isParting_b69 S Q → va_P D vwCl (zWS k a S) H → va_S (zA a s.heap.size) s.heap H locs → lv_has ls 8 [(0, .ref (a 2))] → zWi p l e (headSpec wsX4_isParting rm_X4_isParting).room s m ([.ref (a 2), .int y1, .int y2] : List Value) below meth c D k a Q H locs (F0 m 69 ls []) := by
    intro S H locs ls hm hP hS hl
    unfold X4_isParting_b69 at hm
    refine lv_iconst (v := (0 : Int32)) hx hb dX4_isParting_69 (by decide) ?_
    exact z_retz hx hb hr hlocks hP hS hm dX4_isParting_70
  have L2 : ∀ (x1 : Int32) (x2 : Int32) (n : Nat) (x3 : Int32) (S : ZS) (H : Heap) (locs : List Loc) (ls : Array Slot), zn (X4_isParting_L2 x1 x2 Q) n (x3, S) → va_P D vwCl (zWS k a S) H → va_S (zA a s.heap.size) s.heap H locs → lv_has ls 8 [(0, .ref (a 2)), (1, .int x1), (2, .int x2), (3, .int x3)] → zWi p l e (headSpec wsX4_isParting rm_X4_isParting).room s m ([.ref (a 2), .int y1, .int y2] : List Value) below meth c D k a Q H locs (F0 m 2 ls []) := by
    intro x1 x2 n
    induction n with
    | zero =>
      intro x3 S H locs ls hm
      exact hm.elim
    | succ n ih2 =>
      intro x3 S H locs ls hm hP hS hl
      have hm : X4_isParting_B2 x1 x2 x3 S Q (zn (X4_isParting_L2 x1 x2 Q) n) := hm
      generalize zn (X4_isParting_L2 x1 x2 Q) n = k2 at hm ih2
      unfold X4_isParting_B2 at hm
      refine lv_iload_n hx hb dX4_isParting_2 rfl (lv_at hl 3 rfl) ?_
      refine lv_aload_n hx hb dX4_isParting_3 rfl (lv_at hl 0 rfl) ?_
      refine zg_4_whole hx hb hts i4 hown hK hP (hts _ (List.mem_of_getElem? (i := 1) rfl)) dX4_isParting_4 ?_
      refine zg_5_columns hx hb hts i5 hown hK hP (hts _ (List.mem_of_getElem? (i := 2) rfl)) dX4_isParting_7 ?_
      refine lv_icmp_ge (tgt := 77) hx hb dX4_isParting_10 (by decide) (fun c_10 => ?_) (fun c_10 => ?_)
      · have hm := hm.1 c_10
        exact b77  S _ _ _ hm hP hS (lv_sub hl [0] rfl)
      · have hm := hm.2 c_10
        refine lv_aload_n hx hb dX4_isParting_13 rfl (lv_at hl 0 rfl) ?_
        refine zg_4_rowsAbove hx hb hts i4 hown hK hP (hts _ (List.mem_of_getElem? (i := 3) rfl)) dX4_isParting_14 ?_
        refine lv_iload_n hx hb dX4_isParting_17 rfl (lv_at hl 3 rfl) ?_
        obtain ⟨h_18, hm⟩ := hm
        refine z_iald hx hb hK hP zI_24 h_18 dX4_isParting_18 ?_
        refine lv_topi (fun x4_19 ex4_19 => ?_)
        have hm := hm x4_19 ex4_19
        refine lv_istore (lv' := [(4, .int x4_19), (0, .ref (a 2)), (1, .int x1), (2, .int x2), (3, .int x3)]) hx hb dX4_isParting_19 hl (by decide) rfl (fun ls hl => ?_)
        refine lv_aload_n hx hb dX4_isParting_21 rfl (lv_at hl 1 rfl) ?_
        refine zg_4_rowsBelow hx hb hts i4 hown hK hP (hts _ (List.mem_of_getElem? (i := 4) rfl)) dX4_isParting_22 ?_
        refine lv_iload_n hx hb dX4_isParting_25 rfl (lv_at hl 4 rfl) ?_
        obtain ⟨h_26, hm⟩ := hm
        refine z_iald hx hb hK hP zI_25 h_26 dX4_isParting_26 ?_
        refine lv_topi (fun x5_27 ex5_27 => ?_)
        have hm := hm x5_27 ex5_27
        refine lv_istore (lv' := [(5, .int x5_27), (4, .int x4_19), (0, .ref (a 2)), (1, .int x1), (2, .int x2), (3, .int x3)]) hx hb dX4_isParting_27 hl (by decide) rfl (fun ls hl => ?_)
        refine lv_iload hx hb dX4_isParting_29 (lv_at hl 1 rfl) ?_
        refine lv_iload_n hx hb dX4_isParting_31 rfl (lv_at hl 3 rfl) ?_
        refine lv_iand hx hb dX4_isParting_32 ?_
        refine lv_iload hx hb dX4_isParting_33 (lv_at hl 0 rfl) ?_
        refine lv_iload_n hx hb dX4_isParting_35 rfl (lv_at hl 4 rfl) ?_
        refine lv_iand hx hb dX4_isParting_36 ?_
        refine lv_ior hx hb dX4_isParting_37 ?_
        refine z_cSi (As := [.int ((x4_19 &&& x1) ||| (x5_27 &&& x2))]) (rest := []) hF hK hP hS (c_J6_bitCount_0f7a4 l D k a hj ((x4_19 &&& x1) ||| (x5_27 &&& x2)) S _ hm _) (va_cwS 1 hts gX4_isParting_J6_bitCount_0f7a4 rfl rfl rfl (by decide +kernel) ⟨Nat.le_of_ble_eq_true rfl, Nat.le_of_ble_eq_true rfl⟩) rfl hl.1 rfl (Nat.le_of_ble_eq_true rfl) dX4_isParting_38 ⟨Nat.zero_le _, Nat.zero_le _⟩ (fun r_38 S_38 H locs hm hP hS => ?_)
        refine lv_istore (lv' := [(6, .int r_38), (5, .int x5_27), (4, .int x4_19), (0, .ref (a 2)), (1, .int x1), (2, .int x2), (3, .int x3)]) hx hb dX4_isParting_41 hl (by decide) rfl (fun ls hl => ?_)
        refine lv_iload hx hb dX4_isParting_43 (lv_at hl 2 rfl) ?_
        refine lv_iload_n hx hb dX4_isParting_45 rfl (lv_at hl 5 rfl) ?_
        refine lv_iand hx hb dX4_isParting_46 ?_
        refine lv_iload hx hb dX4_isParting_47 (lv_at hl 1 rfl) ?_
        refine lv_iload_n hx hb dX4_isParting_49 rfl (lv_at hl 4 rfl) ?_
        refine lv_iand hx hb dX4_isParting_50 ?_
        refine lv_ior hx hb dX4_isParting_51 ?_
        refine z_cSi (As := [.int ((x4_19 &&& x2) ||| (x5_27 &&& x1))]) (rest := []) hF hK hP hS (c_J6_bitCount_0f7a4 l D k a hj ((x4_19 &&& x2) ||| (x5_27 &&& x1)) S_38 _ hm _) (va_cwS 1 hts gX4_isParting_J6_bitCount_0f7a4 rfl rfl rfl (by decide +kernel) ⟨Nat.le_of_ble_eq_true rfl, Nat.le_of_ble_eq_true rfl⟩) rfl hl.1 rfl (Nat.le_of_ble_eq_true rfl) dX4_isParting_52 ⟨Nat.zero_le _, Nat.zero_le _⟩ (fun r_52 S_52 H locs hm hP hS => ?_)
        refine lv_istore (lv' := [(7, .int r_52), (6, .int r_38), (5, .int x5_27), (4, .int x4_19), (0, .ref (a 2)), (1, .int x1), (2, .int x2), (3, .int x3)]) hx hb dX4_isParting_55 hl (by decide) rfl (fun ls hl => ?_)
        refine lv_iload hx hb dX4_isParting_57 (lv_at hl 1 rfl) ?_
        refine lv_iload hx hb dX4_isParting_59 (lv_at hl 0 rfl) ?_
        refine lv_isub hx hb dX4_isParting_61 ?_
        refine lv_iconst (v := (1 : Int32)) hx hb dX4_isParting_62 (by decide) ?_
        refine z_cNi (As := [.int (r_38 - r_52), .int (1 : Int32)]) (rest := []) hF hK hP hS (c_X6_isWithin l D k a hj (r_38 - r_52) (1 : Int32) S_52 _ hm _) ⟨va_cnB 2 hts gX4_isParting_X6_isWithin_n111 rfl rfl rfl hK.2 (hts (.initialized RX6) (List.mem_of_getElem? (i := 13) rfl)) (by decide +kernel) ⟨Nat.le_of_ble_eq_true rfl, Nat.le_of_ble_eq_true rfl⟩, hts _ (List.mem_of_getElem? (i := 12) rfl), trivial⟩ rfl hl.1 rfl (Nat.le_of_ble_eq_true rfl) dX4_isParting_63 ⟨Nat.zero_le _, Nat.zero_le _⟩ (fun r_63 S_63 H locs hm hP hS => ?_)
        refine lv_if_ne (tgt := 71) hx hb dX4_isParting_66 (by decide) (fun c_66 => ?_) (fun c_66 => ?_)
        · have hm := hm.2 c_66
          obtain ⟨x3_71, ex3_71⟩ : ∃ y : Int32, y = x3 + (1 : Int32) := ⟨_, rfl⟩
          have hm := hm x3_71 ex3_71
          refine lv_iinc (v := x3_71) (lv' := [(3, .int x3_71), (7, .int r_52), (6, .int r_38), (5, .int x5_27), (4, .int x4_19), (0, .ref (a 2)), (1, .int x1), (2, .int x2)]) hx hb dX4_isParting_71 hl (k := 7) rfl (by rw [ex3_71]; rfl) (by decide) rfl (fun ls hl => ?_)
          refine lv_goto (tgt := 2) hx hb dX4_isParting_74 (by decide) ?_
          exact ih2 x3_71 S_63 _ _ _ hm hP hS (lv_sub hl [5, 6, 7, 0] rfl)
        · have hm := hm.1 c_66
          exact b69  S_63 _ _ _ hm hP hS (lv_sub hl [4] rfl)
  unfold X4_isParting at hm
  refine lv_iconst (v := (0 : Int32)) hx hb dX4_isParting_0 (by decide) ?_
  refine lv_istore_n (lv' := [(3, .int (0 : Int32)), (0, .ref (a 2)), (1, .int y1), (2, .int y2)]) hx hb dX4_isParting_1 rfl hl (by decide) rfl (fun ls hl => ?_)
  obtain ⟨n2, hm⟩ := hm
  exact L2 y1 y2 n2 (0 : Int32) S _ _ _ hm hP hS (lv_sub hl [1, 2, 3, 0] rfl)

abbrev rm_X4_canBeParted : Room := { frames := 2, cells := 0, slots := 0, locals := 48 }
def X4_canBeParted_b30 (x1 : Int32) (x2 : Int32) (S : ZS) (Q : Int32 → ZS → Prop) : Prop :=
  X4_isParting (0 : Int32) (x1 + x2) S (fun r_35 S_35 => zbit r_35 ∧ Q r_35 S_35)
def X4_canBeParted_b19 (S : ZS) (Q : Int32 → ZS → Prop) : Prop :=
  zbit (1 : Int32) ∧ Q (1 : Int32) S
def X4_canBeParted_B2 (x1 : Int32) (x2 : Int32) (x3 : Int32) (S : ZS) (Q : Int32 → ZS → Prop) (k2 : Int32 × ZS → Prop) : Prop :=
  (x3 ≤ 0 → X4_canBeParted_b30 x1 x2 S Q) ∧ (¬ x3 ≤ 0 → X4_isParting x3 ((x1 - x3) + x2) S (fun r_13 S_13 => (r_13 = 0 → ∀ x3_26 : Int32, x3_26 = ((x3 - (1 : Int32)) &&& x1) → k2 (x3_26, S_13)) ∧ (¬ r_13 = 0 → X4_canBeParted_b19 S_13 Q)))
def X4_canBeParted_L2 (x1 : Int32) (x2 : Int32) (Q : Int32 → ZS → Prop) : (Int32 × ZS) → ((Int32 × ZS) → Prop) → Prop := fun st k2 => X4_canBeParted_B2 x1 x2 st.1 st.2 Q k2
def X4_canBeParted (y1 : Int32) (y2 : Int32) (S : ZS) (Q : Int32 → ZS → Prop) : Prop :=
  zl (X4_canBeParted_L2 y1 y2 Q) (y1, S)
set_option maxHeartbeats 4000000 in
set_option maxRecDepth 100000 in
theorem c_X4_canBeParted (l : Launch) (D : va_G) (k : Nat → ClassId) (a : Nat → Nat) (hj : zDj a) (y1 : Int32) (y2 : Int32) (S : ZS) (Q : Int32 → ZS → Prop) (hm : X4_canBeParted y1 y2 S Q) (sz : Nat) : Met l yX4_canBeParted wsX4_canBeParted rm_X4_canBeParted (zPc D k a [.ref (a 2), .int y1, .int y2] S sz) (va_Qi Q (zB D k a) (zA a sz)) 0 0 (zA a sz) := by
  refine Met.ofW (cc := cX4_canBeParted) (maxL := 4) (ret := (some .boolean)) (by decide) rfl ?_
  intro p e s m args below meth c s₁ B hml hv
  obtain ⟨rfl, hsz, hP, hK⟩ := hv
  have hx := B.exec
  have hb := B.bytes
  have hr := B.returns
  have hts := atoms_spec (ws := wsX4_canBeParted) B.pre
  have hown : s.vm.findClass RX4 = some m.cls := findClass_of_methodNamed B.named
  have hlocks := B.notSynchronized
  subst hsz
  have hS : va_S (zA a s.heap.size) s.heap s.heap [] := va_S.rf
  have hF : CallFix p m c cX4_canBeParted 4 s _ wsX4_canBeParted RX4 := ⟨hx, hb, hml, hown, hts⟩
  have hl := lv_entry ([.ref (a 2), .int y1, .int y2]) (n := 4) (Nat.le_of_ble_eq_true rfl)
  rw [lg_entry_eq]
  generalize (lg_sl ([.ref (a 2), .int y1, .int y2]) ++ List.replicate (4 - (lg_sl ([.ref (a 2), .int y1, .int y2])).length) Slot.unset).toArray = ls at hl ⊢
  have hl : lv_has ls 4 [(0, .ref (a 2)), (1, .int y1), (2, .int y2)] := hl
  have b30 : ∀ (x1 : Int32) (x2 : Int32) (S : ZS) (H : Heap) (locs : List Loc) (ls : Array Slot), X4_canBeParted_b30 x1 x2 S Q → va_P D vwCl (zWS k a S) H → va_S (zA a s.heap.size) s.heap H locs → lv_has ls 4 [(0, .ref (a 2)), (1, .int x1), (2, .int x2)] → zWi p l e (headSpec wsX4_canBeParted rm_X4_canBeParted).room s m ([.ref (a 2), .int y1, .int y2] : List Value) below meth c D k a Q H locs (F0 m 30 ls []) := by
    intro x1 x2 S H locs ls hm hP hS hl
    unfold X4_canBeParted_b30 at hm
    refine lv_aload_n hx hb dX4_canBeParted_30 rfl (lv_at hl 0 rfl) ?_
    refine lv_iconst (v := (0 : Int32)) hx hb dX4_canBeParted_31 (by decide) ?_
    refine lv_iload_n hx hb dX4_canBeParted_32 rfl (lv_at hl 1 rfl) ?_
    refine lv_iload_n hx hb dX4_canBeParted_33 rfl (lv_at hl 2 rfl) ?_
    refine lv_iadd hx hb dX4_canBeParted_34 ?_
    refine z_cVi (As := [.int (0 : Int32), .int (x1 + x2)]) (rest := []) hF hK hP hS zO_2 rfl rfl (c_X4_isParting l D k a hj (0 : Int32) (x1 + x2) S _ hm _) (cwV 2 hts gX4_canBeParted_X4_isParting rfl rfl rfl (by decide +kernel) ⟨Nat.le_of_ble_eq_true rfl, Nat.le_of_ble_eq_true rfl⟩) rfl hl.1 rfl (Nat.le_of_ble_eq_true rfl) dX4_canBeParted_35 ⟨Nat.zero_le _, Nat.zero_le _⟩ (fun r_35 S_35 H locs hm hP hS => ?_)
    exact z_retz hx hb hr hlocks hP hS hm dX4_canBeParted_38
  have b19 : ∀ (S : ZS) (H : Heap) (locs : List Loc) (ls : Array Slot), X4_canBeParted_b19 S Q → va_P D vwCl (zWS k a S) H → va_S (zA a s.heap.size) s.heap H locs → lv_has ls 4 [(0, .ref (a 2))] → zWi p l e (headSpec wsX4_canBeParted rm_X4_canBeParted).room s m ([.ref (a 2), .int y1, .int y2] : List Value) below meth c D k a Q H locs (F0 m 19 ls []) := by
    intro S H locs ls hm hP hS hl
    unfold X4_canBeParted_b19 at hm
    refine lv_iconst (v := (1 : Int32)) hx hb dX4_canBeParted_19 (by decide) ?_
    exact z_retz hx hb hr hlocks hP hS hm dX4_canBeParted_20
  have L2 : ∀ (x1 : Int32) (x2 : Int32) (n : Nat) (x3 : Int32) (S : ZS) (H : Heap) (locs : List Loc) (ls : Array Slot), zn (X4_canBeParted_L2 x1 x2 Q) n (x3, S) → va_P D vwCl (zWS k a S) H → va_S (zA a s.heap.size) s.heap H locs → lv_has ls 4 [(0, .ref (a 2)), (1, .int x1), (2, .int x2), (3, .int x3)] → zWi p l e (headSpec wsX4_canBeParted rm_X4_canBeParted).room s m ([.ref (a 2), .int y1, .int y2] : List Value) below meth c D k a Q H locs (F0 m 2 ls []) := by
    intro x1 x2 n
    induction n with
    | zero =>
      intro x3 S H locs ls hm
      exact hm.elim
    | succ n ih2 =>
      intro x3 S H locs ls hm hP hS hl
      have hm : X4_canBeParted_B2 x1 x2 x3 S Q (zn (X4_canBeParted_L2 x1 x2 Q) n) := hm
      generalize zn (X4_canBeParted_L2 x1 x2 Q) n = k2 at hm ih2
      unfold X4_canBeParted_B2 at hm
      refine lv_iload_n hx hb dX4_canBeParted_2 rfl (lv_at hl 3 rfl) ?_
      refine lv_if_le (tgt := 30) hx hb dX4_canBeParted_3 (by decide) (fun c_3 => ?_) (fun c_3 => ?_)
      · have hm := hm.1 c_3
        exact b30 x1 x2 S _ _ _ hm hP hS (lv_sub hl [0, 1, 2] rfl)
      · have hm := hm.2 c_3
        refine lv_aload_n hx hb dX4_canBeParted_6 rfl (lv_at hl 0 rfl) ?_
        refine lv_iload_n hx hb dX4_canBeParted_7 rfl (lv_at hl 3 rfl) ?_
        refine lv_iload_n hx hb dX4_canBeParted_8 rfl (lv_at hl 1 rfl) ?_
        refine lv_iload_n hx hb dX4_canBeParted_9 rfl (lv_at hl 3 rfl) ?_
        refine lv_isub hx hb dX4_canBeParted_10 ?_
        refine lv_iload_n hx hb dX4_canBeParted_11 rfl (lv_at hl 2 rfl) ?_
        refine lv_iadd hx hb dX4_canBeParted_12 ?_
        refine z_cVi (As := [.int x3, .int ((x1 - x3) + x2)]) (rest := []) hF hK hP hS zO_2 rfl rfl (c_X4_isParting l D k a hj x3 ((x1 - x3) + x2) S _ hm _) (cwV 2 hts gX4_canBeParted_X4_isParting rfl rfl rfl (by decide +kernel) ⟨Nat.le_of_ble_eq_true rfl, Nat.le_of_ble_eq_true rfl⟩) rfl hl.1 rfl (Nat.le_of_ble_eq_true rfl) dX4_canBeParted_13 ⟨Nat.zero_le _, Nat.zero_le _⟩ (fun r_13 S_13 H locs hm hP hS => ?_)
        refine lv_if_eq (tgt := 21) hx hb dX4_canBeParted_16 (by decide) (fun c_16 => ?_) (fun c_16 => ?_)
        · have hm := hm.1 c_16
          refine lv_iload_n hx hb dX4_canBeParted_21 rfl (lv_at hl 3 rfl) ?_
          refine lv_iconst (v := (1 : Int32)) hx hb dX4_canBeParted_22 (by decide) ?_
          refine lv_isub hx hb dX4_canBeParted_23 ?_
          refine lv_iload_n hx hb dX4_canBeParted_24 rfl (lv_at hl 1 rfl) ?_
          refine lv_iand hx hb dX4_canBeParted_25 ?_
          refine lv_topi (fun x3_26 ex3_26 => ?_)
          have hm := hm x3_26 ex3_26
          refine lv_istore_n (lv' := [(3, .int x3_26), (0, .ref (a 2)), (1, .int x1), (2, .int x2)]) hx hb dX4_canBeParted_26 rfl hl (by decide) rfl (fun ls hl => ?_)
          refine lv_goto (tgt := 2) hx hb dX4_canBeParted_27 (by decide) ?_
          exact ih2 x3_26 S_13 _ _ _ hm hP hS (lv_sub hl [1, 2, 3, 0] rfl)
        · have hm := hm.2 c_16
          exact b19  S_13 _ _ _ hm hP hS (lv_sub hl [0] rfl)
  unfold X4_canBeParted at hm
  refine lv_iload_n hx hb dX4_canBeParted_0 rfl (lv_at hl 1 rfl) ?_
  refine lv_istore_n (lv' := [(3, .int y1), (0, .ref (a 2)), (1, .int y1), (2, .int y2)]) hx hb dX4_canBeParted_1 rfl hl (by decide) rfl (fun ls hl => ?_)
  obtain ⟨n2, hm⟩ := hm
  exact L2 y1 y2 n2 y1 S _ _ _ hm hP hS (lv_sub hl [1, 2, 3, 0] rfl)

abbrev rm_X4_firstSetNotParted : Room := { frames := 3, cells := 0, slots := 0, locals := 71 }
def X4_firstSetNotParted_b67 (S : ZS) (Q : Int32 → ZS → Prop) : Prop :=
  Q (-1 : Int32) S
def X4_firstSetNotParted_b61 (x1 : Int32) (S : ZS) (Q : Int32 → ZS → Prop) (k6 : Int32 × ZS → Prop) : Prop :=
  ∀ x1_61 : Int32, x1_61 = x1 + (1 : Int32) → k6 (x1_61, S)
def X4_firstSetNotParted_b49 (x1 : Int32) (x2 : Int32) (S : ZS) (Q : Int32 → ZS → Prop) : Prop :=
  Q (x2 + ((1 : Int32) <<< (x1 &&& 31))) S
def X4_firstSetNotParted_B31 (x1 : Int32) (x2 : Int32) (S : ZS) (Q : Int32 → ZS → Prop) (k6 : Int32 × ZS → Prop) (k31 : Int32 × ZS → Prop) : Prop :=
  (((1 : Int32) <<< (x1 &&& 31)) ≤ x2 → X4_firstSetNotParted_b61 x1 S Q k6) ∧ (¬ ((1 : Int32) <<< (x1 &&& 31)) ≤ x2 → X4_canBeParted x2 ((1 : Int32) <<< (x1 &&& 31)) S (fun r_43 S_43 => (r_43 = 0 → X4_firstSetNotParted_b49 x1 x2 S_43 Q) ∧ (¬ r_43 = 0 → ∀ x2_55 : Int32, x2_55 = x2 + (1 : Int32) → k31 (x2_55, S_43))))
def X4_firstSetNotParted_L31 (x1 : Int32) (Q : Int32 → ZS → Prop) (k6 : Int32 × ZS → Prop) : (Int32 × ZS) → ((Int32 × ZS) → Prop) → Prop := fun st k31 => X4_firstSetNotParted_B31 x1 st.1 st.2 Q k6 k31
def X4_firstSetNotParted_b25 (x1 : Int32) (S : ZS) (Q : Int32 → ZS → Prop) : Prop :=
  Q ((1 : Int32) <<< (x1 &&& 31)) S
def X4_firstSetNotParted_B6 (x1 : Int32) (S : ZS) (Q : Int32 → ZS → Prop) (k6 : Int32 × ZS → Prop) : Prop :=
  ((S.1 1 1) ≤ x1 → X4_firstSetNotParted_b67 S Q) ∧ (¬ (S.1 1 1) ≤ x1 → X4_hasUnitTerms x1 S (fun r_19 S_19 => (r_19 = 0 → X4_firstSetNotParted_b25 x1 S_19 Q) ∧ (¬ r_19 = 0 → zl (X4_firstSetNotParted_L31 x1 Q k6) ((0 : Int32), S_19))))
def X4_firstSetNotParted_L6 (Q : Int32 → ZS → Prop) : (Int32 × ZS) → ((Int32 × ZS) → Prop) → Prop := fun st k6 => X4_firstSetNotParted_B6 st.1 st.2 Q k6
def X4_firstSetNotParted (S : ZS) (Q : Int32 → ZS → Prop) : Prop :=
  X4_noteSides S (fun S_1 => zl (X4_firstSetNotParted_L6 Q) ((0 : Int32), S_1))
set_option maxHeartbeats 4000000 in
set_option maxRecDepth 100000 in
theorem c_X4_firstSetNotParted (l : Launch) (D : va_G) (k : Nat → ClassId) (a : Nat → Nat) (hj : zDj a) (S : ZS) (Q : Int32 → ZS → Prop) (hm : X4_firstSetNotParted S Q) (sz : Nat) : Met l yX4_firstSetNotParted wsX4_firstSetNotParted rm_X4_firstSetNotParted (zPc D k a [.ref (a 2)] S sz) (va_Qi Q (zB D k a) (zA a sz)) 0 0 (zA a sz) := by
  refine Met.ofW (cc := cX4_firstSetNotParted) (maxL := 3) (ret := (some .int)) (by decide) rfl ?_
  intro p e s m args below meth c s₁ B hml hv
  obtain ⟨rfl, hsz, hP, hK⟩ := hv
  have hx := B.exec
  have hb := B.bytes
  have hr := B.returns
  have hts := atoms_spec (ws := wsX4_firstSetNotParted) B.pre
  have hown : s.vm.findClass RX4 = some m.cls := findClass_of_methodNamed B.named
  have hlocks := B.notSynchronized
  subst hsz
  have hS : va_S (zA a s.heap.size) s.heap s.heap [] := va_S.rf
  have hF : CallFix p m c cX4_firstSetNotParted 3 s _ wsX4_firstSetNotParted RX4 := ⟨hx, hb, hml, hown, hts⟩
  have i4 : ∀ w ∈ wsX40, w ∈ wsX4_firstSetNotParted := fun _ h => (List.mem_cons_of_mem _ (List.mem_append_left _ (List.mem_append_right _ h)))
  have i5 : ∀ w ∈ wsX50, w ∈ wsX4_firstSetNotParted := fun _ h => (List.mem_cons_of_mem _ (List.mem_append_right _ h))
  have hl := lv_entry ([.ref (a 2)]) (n := 3) (Nat.le_of_ble_eq_true rfl)
  rw [lg_entry_eq]
  generalize (lg_sl ([.ref (a 2)]) ++ List.replicate (3 - (lg_sl ([.ref (a 2)])).length) Slot.unset).toArray = ls at hl ⊢
  have hl : lv_has ls 3 [(0, .ref (a 2))] := hl
  have b67 : ∀ (S : ZS) (H : Heap) (locs : List Loc) (ls : Array Slot), X4_firstSetNotParted_b67 S Q → va_P D vwCl (zWS k a S) H → va_S (zA a s.heap.size) s.heap H locs → lv_has ls 3 [(0, .ref (a 2))] → zWi p l e (headSpec wsX4_firstSetNotParted rm_X4_firstSetNotParted).room s m ([.ref (a 2)] : List Value) below meth c D k a Q H locs (F0 m 67 ls []) := by
    intro S H locs ls hm hP hS hl
    unfold X4_firstSetNotParted_b67 at hm
    refine lv_iconst (v := (-1 : Int32)) hx hb dX4_firstSetNotParted_67 (by decide) ?_
    exact z_reti hx hb hr hlocks hP hS hm dX4_firstSetNotParted_68
  have b49 : ∀ (x1 : Int32) (x2 : Int32) (S : ZS) (H : Heap) (locs : List Loc) (ls : Array Slot), X4_firstSetNotParted_b49 x1 x2 S Q → va_P D vwCl (zWS k a S) H → va_S (zA a s.heap.size) s.heap H locs → lv_has ls 3 [(0, .ref (a 2)), (1, .int x1), (2, .int x2)] → zWi p l e (headSpec wsX4_firstSetNotParted rm_X4_firstSetNotParted).room s m ([.ref (a 2)] : List Value) below meth c D k a Q H locs (F0 m 49 ls []) := by
    intro x1 x2 S H locs ls hm hP hS hl
    unfold X4_firstSetNotParted_b49 at hm
    refine lv_iload_n hx hb dX4_firstSetNotParted_49 rfl (lv_at hl 2 rfl) ?_
    refine lv_iconst (v := (1 : Int32)) hx hb dX4_firstSetNotParted_50 (by decide) ?_
    refine lv_iload_n hx hb dX4_firstSetNotParted_51 rfl (lv_at hl 1 rfl) ?_
    refine lv_ishl hx hb dX4_firstSetNotParted_52 ?_
    refine lv_iadd hx hb dX4_firstSetNotParted_53 ?_
    exact z_reti hx hb hr hlocks hP hS hm dX4_firstSetNotParted_54
  have b25 : ∀ (x1 : Int32) (S : ZS) (H : Heap) (locs : List Loc) (ls : Array Slot), X4_firstSetNotParted_b25 x1 S Q → va_P D vwCl (zWS k a S) H → va_S (zA a s.heap.size) s.heap H locs → lv_has ls 3 [(0, .ref (a 2)), (1, .int x1)] → zWi p l e (headSpec wsX4_firstSetNotParted rm_X4_firstSetNotParted).room s m ([.ref (a 2)] : List Value) below meth c D k a Q H locs (F0 m 25 ls []) := by
    intro x1 S H locs ls hm hP hS hl
    unfold X4_firstSetNotParted_b25 at hm
    refine lv_iconst (v := (1 : Int32)) hx hb dX4_firstSetNotParted_25 (by decide) ?_
    refine lv_iload_n hx hb dX4_firstSetNotParted_26 rfl (lv_at hl 1 rfl) ?_
    refine lv_ishl hx hb dX4_firstSetNotParted_27 ?_
    exact z_reti hx hb hr hlocks hP hS hm dX4_firstSetNotParted_28
  have L6 : ∀ (n : Nat) (x1 : Int32) (S : ZS) (H : Heap) (locs : List Loc) (ls : Array Slot), zn (X4_firstSetNotParted_L6 Q) n (x1, S) → va_P D vwCl (zWS k a S) H → va_S (zA a s.heap.size) s.heap H locs → lv_has ls 3 [(0, .ref (a 2)), (1, .int x1)] → zWi p l e (headSpec wsX4_firstSetNotParted rm_X4_firstSetNotParted).room s m ([.ref (a 2)] : List Value) below meth c D k a Q H locs (F0 m 6 ls []) := by
    intro n
    induction n with
    | zero =>
      intro x1 S H locs ls hm
      exact hm.elim
    | succ n ih6 =>
      intro x1 S H locs ls hm hP hS hl
      have hm : X4_firstSetNotParted_B6 x1 S Q (zn (X4_firstSetNotParted_L6 Q) n) := hm
      generalize zn (X4_firstSetNotParted_L6 Q) n = k6 at hm ih6
      unfold X4_firstSetNotParted_B6 at hm
      have b61 : ∀ (x1 : Int32) (S : ZS) (H : Heap) (locs : List Loc) (ls : Array Slot), X4_firstSetNotParted_b61 x1 S Q k6 → va_P D vwCl (zWS k a S) H → va_S (zA a s.heap.size) s.heap H locs → lv_has ls 3 [(0, .ref (a 2)), (1, .int x1)] → zWi p l e (headSpec wsX4_firstSetNotParted rm_X4_firstSetNotParted).room s m ([.ref (a 2)] : List Value) below meth c D k a Q H locs (F0 m 61 ls []) := by
        intro x1 S H locs ls hm hP hS hl
        unfold X4_firstSetNotParted_b61 at hm
        obtain ⟨x1_61, ex1_61⟩ : ∃ y : Int32, y = x1 + (1 : Int32) := ⟨_, rfl⟩
        have hm := hm x1_61 ex1_61
        refine lv_iinc (v := x1_61) (lv' := [(1, .int x1_61), (0, .ref (a 2))]) hx hb dX4_firstSetNotParted_61 hl (k := 1) rfl (by rw [ex1_61]; rfl) (by decide) rfl (fun ls hl => ?_)
        refine lv_goto (tgt := 6) hx hb dX4_firstSetNotParted_64 (by decide) ?_
        exact ih6 x1_61 S _ _ _ hm hP hS (lv_sub hl [1, 0] rfl)
      have L31 : ∀ (x1 : Int32) (n : Nat) (x2 : Int32) (S : ZS) (H : Heap) (locs : List Loc) (ls : Array Slot), zn (X4_firstSetNotParted_L31 x1 Q k6) n (x2, S) → va_P D vwCl (zWS k a S) H → va_S (zA a s.heap.size) s.heap H locs → lv_has ls 3 [(0, .ref (a 2)), (1, .int x1), (2, .int x2)] → zWi p l e (headSpec wsX4_firstSetNotParted rm_X4_firstSetNotParted).room s m ([.ref (a 2)] : List Value) below meth c D k a Q H locs (F0 m 31 ls []) := by
        intro x1 n
        induction n with
        | zero =>
          intro x2 S H locs ls hm
          exact hm.elim
        | succ n ih31 =>
          intro x2 S H locs ls hm hP hS hl
          have hm : X4_firstSetNotParted_B31 x1 x2 S Q k6 (zn (X4_firstSetNotParted_L31 x1 Q k6) n) := hm
          generalize zn (X4_firstSetNotParted_L31 x1 Q k6) n = k31 at hm ih31
          unfold X4_firstSetNotParted_B31 at hm
          refine lv_iload_n hx hb dX4_firstSetNotParted_31 rfl (lv_at hl 2 rfl) ?_
          refine lv_iconst (v := (1 : Int32)) hx hb dX4_firstSetNotParted_32 (by decide) ?_
          refine lv_iload_n hx hb dX4_firstSetNotParted_33 rfl (lv_at hl 1 rfl) ?_
          refine lv_ishl hx hb dX4_firstSetNotParted_34 ?_
          refine lv_icmp_ge (tgt := 61) hx hb dX4_firstSetNotParted_35 (by decide) (fun c_35 => ?_) (fun c_35 => ?_)
          · have hm := hm.1 c_35
            exact b61 x1 S _ _ _ hm hP hS (lv_sub hl [0, 1] rfl)
          · have hm := hm.2 c_35
            refine lv_aload_n hx hb dX4_firstSetNotParted_38 rfl (lv_at hl 0 rfl) ?_
            refine lv_iload_n hx hb dX4_firstSetNotParted_39 rfl (lv_at hl 2 rfl) ?_
            refine lv_iconst (v := (1 : Int32)) hx hb dX4_firstSetNotParted_40 (by decide) ?_
            refine lv_iload_n hx hb dX4_firstSetNotParted_41 rfl (lv_at hl 1 rfl) ?_
            refine lv_ishl hx hb dX4_firstSetNotParted_42 ?_
            refine z_cVi (As := [.int x2, .int ((1 : Int32) <<< (x1 &&& 31))]) (rest := []) hF hK hP hS zO_2 rfl rfl (c_X4_canBeParted l D k a hj x2 ((1 : Int32) <<< (x1 &&& 31)) S _ hm _) (cwV 2 hts gX4_firstSetNotParted_X4_canBeParted rfl rfl rfl (by decide +kernel) ⟨Nat.le_of_ble_eq_true rfl, Nat.le_of_ble_eq_true rfl⟩) rfl hl.1 rfl (Nat.le_of_ble_eq_true rfl) dX4_firstSetNotParted_43 ⟨Nat.zero_le _, Nat.zero_le _⟩ (fun r_43 S_43 H locs hm hP hS => ?_)
            refine lv_if_ne (tgt := 55) hx hb dX4_firstSetNotParted_46 (by decide) (fun c_46 => ?_) (fun c_46 => ?_)
            · have hm := hm.2 c_46
              obtain ⟨x2_55, ex2_55⟩ : ∃ y : Int32, y = x2 + (1 : Int32) := ⟨_, rfl⟩
              have hm := hm x2_55 ex2_55
              refine lv_iinc (v := x2_55) (lv' := [(2, .int x2_55), (0, .ref (a 2)), (1, .int x1)]) hx hb dX4_firstSetNotParted_55 hl (k := 2) rfl (by rw [ex2_55]; rfl) (by decide) rfl (fun ls hl => ?_)
              refine lv_goto (tgt := 31) hx hb dX4_firstSetNotParted_58 (by decide) ?_
              exact ih31 x2_55 S_43 _ _ _ hm hP hS (lv_sub hl [1, 2, 0] rfl)
            · have hm := hm.1 c_46
              exact b49 x1 x2 S_43 _ _ _ hm hP hS (lv_sub hl [0, 1, 2] rfl)
      refine lv_iload_n hx hb dX4_firstSetNotParted_6 rfl (lv_at hl 1 rfl) ?_
      refine lv_aload_n hx hb dX4_firstSetNotParted_7 rfl (lv_at hl 0 rfl) ?_
      refine zg_4_whole hx hb hts i4 hown hK hP (hts _ (List.mem_of_getElem? (i := 1) rfl)) dX4_firstSetNotParted_8 ?_
      refine zg_5_rows hx hb hts i5 hown hK hP (hts _ (List.mem_of_getElem? (i := 2) rfl)) dX4_firstSetNotParted_11 ?_
      refine lv_icmp_ge (tgt := 67) hx hb dX4_firstSetNotParted_14 (by decide) (fun c_14 => ?_) (fun c_14 => ?_)
      · have hm := hm.1 c_14
        exact b67  S _ _ _ hm hP hS (lv_sub hl [0] rfl)
      · have hm := hm.2 c_14
        refine lv_aload_n hx hb dX4_firstSetNotParted_17 rfl (lv_at hl 0 rfl) ?_
        refine lv_iload_n hx hb dX4_firstSetNotParted_18 rfl (lv_at hl 1 rfl) ?_
        refine z_cVi (As := [.int x1]) (rest := []) hF hK hP hS zO_2 rfl rfl (c_X4_hasUnitTerms l D k a hj x1 S _ hm _) (cwV 1 hts gX4_firstSetNotParted_X4_hasUnitTerms rfl rfl rfl (by decide +kernel) ⟨Nat.le_of_ble_eq_true rfl, Nat.le_of_ble_eq_true rfl⟩) rfl hl.1 rfl (Nat.le_of_ble_eq_true rfl) dX4_firstSetNotParted_19 ⟨Nat.zero_le _, Nat.zero_le _⟩ (fun r_19 S_19 H locs hm hP hS => ?_)
        refine lv_if_ne (tgt := 29) hx hb dX4_firstSetNotParted_22 (by decide) (fun c_22 => ?_) (fun c_22 => ?_)
        · have hm := hm.2 c_22
          refine lv_iconst (v := (0 : Int32)) hx hb dX4_firstSetNotParted_29 (by decide) ?_
          refine lv_istore_n (lv' := [(2, .int (0 : Int32)), (0, .ref (a 2)), (1, .int x1)]) hx hb dX4_firstSetNotParted_30 rfl hl (by decide) rfl (fun ls hl => ?_)
          obtain ⟨n31, hm⟩ := hm
          exact L31 x1 n31 (0 : Int32) S_19 _ _ _ hm hP hS (lv_sub hl [1, 2, 0] rfl)
        · have hm := hm.1 c_22
          exact b25 x1 S_19 _ _ _ hm hP hS (lv_sub hl [0, 1] rfl)
  unfold X4_firstSetNotParted at hm
  refine lv_aload_n hx hb dX4_firstSetNotParted_0 rfl (lv_at hl 0 rfl) ?_
  refine z_cVv (As := []) (rest := []) hF hK hP hS zO_2 rfl rfl (c_X4_noteSides l D k a hj  S _ hm _) (cwV 0 hts gX4_firstSetNotParted_X4_noteSides rfl rfl rfl (by decide +kernel) ⟨Nat.le_of_ble_eq_true rfl, Nat.le_of_ble_eq_true rfl⟩) rfl hl.1 rfl (Nat.le_of_ble_eq_true rfl) dX4_firstSetNotParted_1 ⟨Nat.zero_le _, Nat.zero_le _⟩ (fun S_1 H locs hm hP hS => ?_)
  refine lv_iconst (v := (0 : Int32)) hx hb dX4_firstSetNotParted_4 (by decide) ?_
  refine lv_istore_n (lv' := [(1, .int (0 : Int32)), (0, .ref (a 2))]) hx hb dX4_firstSetNotParted_5 rfl hl (by decide) rfl (fun ls hl => ?_)
  obtain ⟨n6, hm⟩ := hm
  exact L6 n6 (0 : Int32) S_1 _ _ _ hm hP hS (lv_sub hl [1, 0] rfl)

abbrev rm_X4_isKnapsack : Room := { frames := 0, cells := 0, slots := 0, locals := 0 }
def X4_isKnapsack_b23 (S : ZS) (Q : Int32 → ZS → Prop) : Prop :=
  zbit (0 : Int32) ∧ Q (0 : Int32) S
def X4_isKnapsack_b52 (S : ZS) (Q : Int32 → ZS → Prop) : Prop :=
  zbit (0 : Int32) ∧ Q (0 : Int32) S
def X4_isKnapsack_b101 (S : ZS) (Q : Int32 → ZS → Prop) : Prop :=
  zbit (1 : Int32) ∧ Q (1 : Int32) S
def X4_isKnapsack_b93 (S : ZS) (Q : Int32 → ZS → Prop) : Prop :=
  zbit (0 : Int32) ∧ Q (0 : Int32) S
def X4_isKnapsack_B56 (x1 : Int32) (S : ZS) (Q : Int32 → ZS → Prop) (k56 : Int32 × ZS → Prop) : Prop :=
  ((S.1 1 0) ≤ x1 → X4_isKnapsack_b101 S Q) ∧ (¬ (S.1 1 0) ≤ x1 → vp_in (0 : Int32) 8 ∧ vp_in x1 10 ∧ ((S.1 (14 + ((0 : Int32)).toNatClampNeg) (x1).toNatClampNeg) ≤ 0 → X4_isKnapsack_b93 S Q) ∧ (¬ (S.1 (14 + ((0 : Int32)).toNatClampNeg) (x1).toNatClampNeg) ≤ 0 → vp_in x1 10 ∧ ((S.1 8 (x1).toNatClampNeg) = 0 → ∀ x1_95 : Int32, x1_95 = x1 + (1 : Int32) → k56 (x1_95, S)) ∧ (¬ (S.1 8 (x1).toNatClampNeg) = 0 → X4_isKnapsack_b93 S Q)))
def X4_isKnapsack_L56 (Q : Int32 → ZS → Prop) : (Int32 × ZS) → ((Int32 × ZS) → Prop) → Prop := fun st k56 => X4_isKnapsack_B56 st.1 st.2 Q k56
def X4_isKnapsack (S : ZS) (Q : Int32 → ZS → Prop) : Prop :=
  ((S.1 1 1) = (1 : Int32) → vp_in (0 : Int32) 8 ∧ ((S.1 11 ((0 : Int32)).toNatClampNeg) = 0 → vp_in (0 : Int32) 8 ∧ ((S.1 12 ((0 : Int32)).toNatClampNeg) < 0 → X4_isKnapsack_b52 S Q) ∧ (¬ (S.1 12 ((0 : Int32)).toNatClampNeg) < 0 → vp_in (0 : Int32) 8 ∧ ((S.1 12 ((0 : Int32)).toNatClampNeg) ≤ (300 : Int32) → zl (X4_isKnapsack_L56 Q) ((0 : Int32), S)) ∧ (¬ (S.1 12 ((0 : Int32)).toNatClampNeg) ≤ (300 : Int32) → X4_isKnapsack_b52 S Q))) ∧ (¬ (S.1 11 ((0 : Int32)).toNatClampNeg) = 0 → X4_isKnapsack_b23 S Q)) ∧ (¬ (S.1 1 1) = (1 : Int32) → X4_isKnapsack_b23 S Q)
set_option maxHeartbeats 4000000 in
set_option maxRecDepth 100000 in
theorem c_X4_isKnapsack (l : Launch) (D : va_G) (k : Nat → ClassId) (a : Nat → Nat) (hj : zDj a) (S : ZS) (Q : Int32 → ZS → Prop) (hm : X4_isKnapsack S Q) (sz : Nat) : Met l yX4_isKnapsack wsX4_isKnapsack rm_X4_isKnapsack (zPc D k a [.ref (a 2)] S sz) (va_Qi Q (zB D k a) (zA a sz)) 0 0 (zA a sz) := by
  refine Met.ofW (cc := cX4_isKnapsack) (maxL := 2) (ret := (some .boolean)) (by decide) rfl ?_
  intro p e s m args below meth c s₁ B hml hv
  obtain ⟨rfl, hsz, hP, hK⟩ := hv
  have hx := B.exec
  have hb := B.bytes
  have hr := B.returns
  have hts := atoms_spec (ws := wsX4_isKnapsack) B.pre
  have hown : s.vm.findClass RX4 = some m.cls := findClass_of_methodNamed B.named
  have hlocks := B.notSynchronized
  subst hsz
  have hS : va_S (zA a s.heap.size) s.heap s.heap [] := va_S.rf
  have hF : CallFix p m c cX4_isKnapsack 2 s _ wsX4_isKnapsack RX4 := ⟨hx, hb, hml, hown, hts⟩
  have i4 : ∀ w ∈ wsX40, w ∈ wsX4_isKnapsack := fun _ h => (List.mem_cons_of_mem _ (List.mem_append_left _ (List.mem_append_right _ h)))
  have i5 : ∀ w ∈ wsX50, w ∈ wsX4_isKnapsack := fun _ h => (List.mem_cons_of_mem _ (List.mem_append_right _ h))
  have hl := lv_entry ([.ref (a 2)]) (n := 2) (Nat.le_of_ble_eq_true rfl)
  rw [lg_entry_eq]
  generalize (lg_sl ([.ref (a 2)]) ++ List.replicate (2 - (lg_sl ([.ref (a 2)])).length) Slot.unset).toArray = ls at hl ⊢
  have hl : lv_has ls 2 [(0, .ref (a 2))] := hl
  have b23 : ∀ (S : ZS) (H : Heap) (locs : List Loc) (ls : Array Slot), X4_isKnapsack_b23 S Q → va_P D vwCl (zWS k a S) H → va_S (zA a s.heap.size) s.heap H locs → lv_has ls 2 [(0, .ref (a 2))] → zWi p l e (headSpec wsX4_isKnapsack rm_X4_isKnapsack).room s m ([.ref (a 2)] : List Value) below meth c D k a Q H locs (F0 m 23 ls []) := by
    intro S H locs ls hm hP hS hl
    unfold X4_isKnapsack_b23 at hm
    refine lv_iconst (v := (0 : Int32)) hx hb dX4_isKnapsack_23 (by decide) ?_
    exact z_retz hx hb hr hlocks hP hS hm dX4_isKnapsack_24
  have b52 : ∀ (S : ZS) (H : Heap) (locs : List Loc) (ls : Array Slot), X4_isKnapsack_b52 S Q → va_P D vwCl (zWS k a S) H → va_S (zA a s.heap.size) s.heap H locs → lv_has ls 2 [(0, .ref (a 2))] → zWi p l e (headSpec wsX4_isKnapsack rm_X4_isKnapsack).room s m ([.ref (a 2)] : List Value) below meth c D k a Q H locs (F0 m 52 ls []) := by
    intro S H locs ls hm hP hS hl
    unfold X4_isKnapsack_b52 at hm
    refine lv_iconst (v := (0 : Int32)) hx hb dX4_isKnapsack_52 (by decide) ?_
    exact z_retz hx hb hr hlocks hP hS hm dX4_isKnapsack_53
  have b101 : ∀ (S : ZS) (H : Heap) (locs : List Loc) (ls : Array Slot), X4_isKnapsack_b101 S Q → va_P D vwCl (zWS k a S) H → va_S (zA a s.heap.size) s.heap H locs → lv_has ls 2 [(0, .ref (a 2))] → zWi p l e (headSpec wsX4_isKnapsack rm_X4_isKnapsack).room s m ([.ref (a 2)] : List Value) below meth c D k a Q H locs (F0 m 101 ls []) := by
    intro S H locs ls hm hP hS hl
    unfold X4_isKnapsack_b101 at hm
    refine lv_iconst (v := (1 : Int32)) hx hb dX4_isKnapsack_101 (by decide) ?_
    exact z_retz hx hb hr hlocks hP hS hm dX4_isKnapsack_102
  have b93 : ∀ (S : ZS) (H : Heap) (locs : List Loc) (ls : Array Slot), X4_isKnapsack_b93 S Q → va_P D vwCl (zWS k a S) H → va_S (zA a s.heap.size) s.heap H locs → lv_has ls 2 [(0, .ref (a 2))] → zWi p l e (headSpec wsX4_isKnapsack rm_X4_isKnapsack).room s m ([.ref (a 2)] : List Value) below meth c D k a Q H locs (F0 m 93 ls []) := by
    intro S H locs ls hm hP hS hl
    unfold X4_isKnapsack_b93 at hm
    refine lv_iconst (v := (0 : Int32)) hx hb dX4_isKnapsack_93 (by decide) ?_
    exact z_retz hx hb hr hlocks hP hS hm dX4_isKnapsack_94
  have L56 : ∀ (n : Nat) (x1 : Int32) (S : ZS) (H : Heap) (locs : List Loc) (ls : Array Slot), zn (X4_isKnapsack_L56 Q) n (x1, S) → va_P D vwCl (zWS k a S) H → va_S (zA a s.heap.size) s.heap H locs → lv_has ls 2 [(0, .ref (a 2)), (1, .int x1)] → zWi p l e (headSpec wsX4_isKnapsack rm_X4_isKnapsack).room s m ([.ref (a 2)] : List Value) below meth c D k a Q H locs (F0 m 56 ls []) := by
    intro n
    induction n with
    | zero =>
      intro x1 S H locs ls hm
      exact hm.elim
    | succ n ih56 =>
      intro x1 S H locs ls hm hP hS hl
      have hm : X4_isKnapsack_B56 x1 S Q (zn (X4_isKnapsack_L56 Q) n) := hm
      generalize zn (X4_isKnapsack_L56 Q) n = k56 at hm ih56
      unfold X4_isKnapsack_B56 at hm
      refine lv_iload_n hx hb dX4_isKnapsack_56 rfl (lv_at hl 1 rfl) ?_
      refine lv_aload_n hx hb dX4_isKnapsack_57 rfl (lv_at hl 0 rfl) ?_
      refine zg_4_whole hx hb hts i4 hown hK hP (hts _ (List.mem_of_getElem? (i := 1) rfl)) dX4_isKnapsack_58 ?_
      refine zg_5_columns hx hb hts i5 hown hK hP (hts _ (List.mem_of_getElem? (i := 5) rfl)) dX4_isKnapsack_61 ?_
      refine lv_icmp_ge (tgt := 101) hx hb dX4_isKnapsack_64 (by decide) (fun c_64 => ?_) (fun c_64 => ?_)
      · have hm := hm.1 c_64
        exact b101  S _ _ _ hm hP hS (lv_sub hl [0] rfl)
      · have hm := hm.2 c_64
        refine lv_aload_n hx hb dX4_isKnapsack_67 rfl (lv_at hl 0 rfl) ?_
        refine zg_4_whole hx hb hts i4 hown hK hP (hts _ (List.mem_of_getElem? (i := 1) rfl)) dX4_isKnapsack_68 ?_
        refine zg_5_a hx hb hts i5 hown hK hP (hts _ (List.mem_of_getElem? (i := 6) rfl)) dX4_isKnapsack_71 ?_
        refine lv_iconst (v := (0 : Int32)) hx hb dX4_isKnapsack_74 (by decide) ?_
        obtain ⟨h_75, hm⟩ := hm
        refine z_aald hx hb hK hP zQ_13 h_75 dX4_isKnapsack_75 ?_
        refine lv_iload_n hx hb dX4_isKnapsack_76 rfl (lv_at hl 1 rfl) ?_
        obtain ⟨h_77, hm⟩ := hm
        refine z_iald hx hb hK hP (zRi_13 h_75) h_77 dX4_isKnapsack_77 ?_
        refine lv_if_le (tgt := 93) hx hb dX4_isKnapsack_78 (by decide) (fun c_78 => ?_) (fun c_78 => ?_)
        · have hm := hm.1 c_78
          exact b93  S _ _ _ hm hP hS (lv_sub hl [0] rfl)
        · have hm := hm.2 c_78
          refine lv_aload_n hx hb dX4_isKnapsack_81 rfl (lv_at hl 0 rfl) ?_
          refine zg_4_whole hx hb hts i4 hown hK hP (hts _ (List.mem_of_getElem? (i := 1) rfl)) dX4_isKnapsack_82 ?_
          refine zg_5_low hx hb hts i5 hown hK hP (hts _ (List.mem_of_getElem? (i := 7) rfl)) dX4_isKnapsack_85 ?_
          refine lv_iload_n hx hb dX4_isKnapsack_88 rfl (lv_at hl 1 rfl) ?_
          obtain ⟨h_89, hm⟩ := hm
          refine z_iald hx hb hK hP zI_8 h_89 dX4_isKnapsack_89 ?_
          refine lv_if_eq (tgt := 95) hx hb dX4_isKnapsack_90 (by decide) (fun c_90 => ?_) (fun c_90 => ?_)
          · have hm := hm.1 c_90
            obtain ⟨x1_95, ex1_95⟩ : ∃ y : Int32, y = x1 + (1 : Int32) := ⟨_, rfl⟩
            have hm := hm x1_95 ex1_95
            refine lv_iinc (v := x1_95) (lv' := [(1, .int x1_95), (0, .ref (a 2))]) hx hb dX4_isKnapsack_95 hl (k := 1) rfl (by rw [ex1_95]; rfl) (by decide) rfl (fun ls hl => ?_)
            refine lv_goto (tgt := 56) hx hb dX4_isKnapsack_98 (by decide) ?_
            exact ih56 x1_95 S _ _ _ hm hP hS (lv_sub hl [1, 0] rfl)
          · have hm := hm.2 c_90
            exact b93  S _ _ _ hm hP hS (lv_sub hl [0] rfl)
  unfold X4_isKnapsack at hm
  refine lv_aload_n hx hb dX4_isKnapsack_0 rfl (lv_at hl 0 rfl) ?_
  refine zg_4_whole hx hb hts i4 hown hK hP (hts _ (List.mem_of_getElem? (i := 1) rfl)) dX4_isKnapsack_1 ?_
  refine zg_5_rows hx hb hts i5 hown hK hP (hts _ (List.mem_of_getElem? (i := 2) rfl)) dX4_isKnapsack_4 ?_
  refine lv_iconst (v := (1 : Int32)) hx hb dX4_isKnapsack_7 (by decide) ?_
  refine lv_icmp_ne (tgt := 23) hx hb dX4_isKnapsack_8 (by decide) (fun c_8 => ?_) (fun c_8 => ?_)
  · have hm := hm.2 c_8
    exact b23  S _ _ _ hm hP hS (lv_sub hl [0] rfl)
  · have hm := hm.1 c_8
    refine lv_aload_n hx hb dX4_isKnapsack_11 rfl (lv_at hl 0 rfl) ?_
    refine zg_4_whole hx hb hts i4 hown hK hP (hts _ (List.mem_of_getElem? (i := 1) rfl)) dX4_isKnapsack_12 ?_
    refine zg_5_kind hx hb hts i5 hown hK hP (hts _ (List.mem_of_getElem? (i := 3) rfl)) dX4_isKnapsack_15 ?_
    refine lv_iconst (v := (0 : Int32)) hx hb dX4_isKnapsack_18 (by decide) ?_
    obtain ⟨h_19, hm⟩ := hm
    refine z_iald hx hb hK hP zI_11 h_19 dX4_isKnapsack_19 ?_
    refine lv_if_eq (tgt := 25) hx hb dX4_isKnapsack_20 (by decide) (fun c_20 => ?_) (fun c_20 => ?_)
    · have hm := hm.1 c_20
      refine lv_aload_n hx hb dX4_isKnapsack_25 rfl (lv_at hl 0 rfl) ?_
      refine zg_4_whole hx hb hts i4 hown hK hP (hts _ (List.mem_of_getElem? (i := 1) rfl)) dX4_isKnapsack_26 ?_
      refine zg_5_right hx hb hts i5 hown hK hP (hts _ (List.mem_of_getElem? (i := 4) rfl)) dX4_isKnapsack_29 ?_
      refine lv_iconst (v := (0 : Int32)) hx hb dX4_isKnapsack_32 (by decide) ?_
      obtain ⟨h_33, hm⟩ := hm
      refine z_iald hx hb hK hP zI_12 h_33 dX4_isKnapsack_33 ?_
      refine lv_if_lt (tgt := 52) hx hb dX4_isKnapsack_34 (by decide) (fun c_34 => ?_) (fun c_34 => ?_)
      · have hm := hm.1 c_34
        exact b52  S _ _ _ hm hP hS (lv_sub hl [0] rfl)
      · have hm := hm.2 c_34
        refine lv_aload_n hx hb dX4_isKnapsack_37 rfl (lv_at hl 0 rfl) ?_
        refine zg_4_whole hx hb hts i4 hown hK hP (hts _ (List.mem_of_getElem? (i := 1) rfl)) dX4_isKnapsack_38 ?_
        refine zg_5_right hx hb hts i5 hown hK hP (hts _ (List.mem_of_getElem? (i := 4) rfl)) dX4_isKnapsack_41 ?_
        refine lv_iconst (v := (0 : Int32)) hx hb dX4_isKnapsack_44 (by decide) ?_
        obtain ⟨h_45, hm⟩ := hm
        refine z_iald hx hb hK hP zI_12 h_45 dX4_isKnapsack_45 ?_
        refine lv_sipush (v := (300 : Int32)) hx hb dX4_isKnapsack_46 (by decide) ?_
        refine lv_icmp_le (tgt := 54) hx hb dX4_isKnapsack_49 (by decide) (fun c_49 => ?_) (fun c_49 => ?_)
        · have hm := hm.1 c_49
          refine lv_iconst (v := (0 : Int32)) hx hb dX4_isKnapsack_54 (by decide) ?_
          refine lv_istore_n (lv' := [(1, .int (0 : Int32)), (0, .ref (a 2))]) hx hb dX4_isKnapsack_55 rfl hl (by decide) rfl (fun ls hl => ?_)
          obtain ⟨n56, hm⟩ := hm
          exact L56 n56 (0 : Int32) S _ _ _ hm hP hS (lv_sub hl [1, 0] rfl)
        · have hm := hm.2 c_49
          exact b52  S _ _ _ hm hP hS (lv_sub hl [0] rfl)
    · have hm := hm.2 c_20
      exact b23  S _ _ _ hm hP hS (lv_sub hl [0] rfl)

abbrev rm_X4_hasTermBelowZero : Room := { frames := 0, cells := 0, slots := 0, locals := 0 }
def X4_hasTermBelowZero_b35 (S : ZS) (Q : Int32 → ZS → Prop) : Prop :=
  zbit (0 : Int32) ∧ Q (0 : Int32) S
def X4_hasTermBelowZero_b27 (S : ZS) (Q : Int32 → ZS → Prop) : Prop :=
  zbit (1 : Int32) ∧ Q (1 : Int32) S
def X4_hasTermBelowZero_B2 (x1 : Int32) (x2 : Int32) (S : ZS) (Q : Int32 → ZS → Prop) (k2 : Int32 × ZS → Prop) : Prop :=
  ((S.1 1 0) ≤ x2 → X4_hasTermBelowZero_b35 S Q) ∧ (¬ (S.1 1 0) ≤ x2 → vp_in x1 8 ∧ vp_in x2 10 ∧ (0 ≤ (S.1 (14 + (x1).toNatClampNeg) (x2).toNatClampNeg) → ∀ x2_29 : Int32, x2_29 = x2 + (1 : Int32) → k2 (x2_29, S)) ∧ (¬ 0 ≤ (S.1 (14 + (x1).toNatClampNeg) (x2).toNatClampNeg) → X4_hasTermBelowZero_b27 S Q))
def X4_hasTermBelowZero_L2 (x1 : Int32) (Q : Int32 → ZS → Prop) : (Int32 × ZS) → ((Int32 × ZS) → Prop) → Prop := fun st k2 => X4_hasTermBelowZero_B2 x1 st.1 st.2 Q k2
def X4_hasTermBelowZero (y1 : Int32) (S : ZS) (Q : Int32 → ZS → Prop) : Prop :=
  zl (X4_hasTermBelowZero_L2 y1 Q) ((0 : Int32), S)
set_option maxHeartbeats 4000000 in
set_option maxRecDepth 100000 in
theorem c_X4_hasTermBelowZero (l : Launch) (D : va_G) (k : Nat → ClassId) (a : Nat → Nat) (hj : zDj a) (y1 : Int32) (S : ZS) (Q : Int32 → ZS → Prop) (hm : X4_hasTermBelowZero y1 S Q) (sz : Nat) : Met l yX4_hasTermBelowZero wsX4_hasTermBelowZero rm_X4_hasTermBelowZero (zPc D k a [.ref (a 2), .int y1] S sz) (va_Qi Q (zB D k a) (zA a sz)) 0 0 (zA a sz) := by
  refine Met.ofW (cc := cX4_hasTermBelowZero) (maxL := 3) (ret := (some .boolean)) (by decide) rfl ?_
  intro p e s m args below meth c s₁ B hml hv
  obtain ⟨rfl, hsz, hP, hK⟩ := hv
  have hx := B.exec
  have hb := B.bytes
  have hr := B.returns
  have hts := atoms_spec (ws := wsX4_hasTermBelowZero) B.pre
  have hown : s.vm.findClass RX4 = some m.cls := findClass_of_methodNamed B.named
  have hlocks := B.notSynchronized
  subst hsz
  have hS : va_S (zA a s.heap.size) s.heap s.heap [] := va_S.rf
  have hF : CallFix p m c cX4_hasTermBelowZero 3 s _ wsX4_hasTermBelowZero RX4 := ⟨hx, hb, hml, hown, hts⟩
  have i4 : ∀ w ∈ wsX40, w ∈ wsX4_hasTermBelowZero := fun _ h => (List.mem_cons_of_mem _ (List.mem_append_left _ (List.mem_append_right _ h)))
  have i5 : ∀ w ∈ wsX50, w ∈ wsX4_hasTermBelowZero := fun _ h => (List.mem_cons_of_mem _ (List.mem_append_right _ h))
  have hl := lv_entry ([.ref (a 2), .int y1]) (n := 3) (Nat.le_of_ble_eq_true rfl)
  rw [lg_entry_eq]
  generalize (lg_sl ([.ref (a 2), .int y1]) ++ List.replicate (3 - (lg_sl ([.ref (a 2), .int y1])).length) Slot.unset).toArray = ls at hl ⊢
  have hl : lv_has ls 3 [(0, .ref (a 2)), (1, .int y1)] := hl
  have b35 : ∀ (S : ZS) (H : Heap) (locs : List Loc) (ls : Array Slot), X4_hasTermBelowZero_b35 S Q → va_P D vwCl (zWS k a S) H → va_S (zA a s.heap.size) s.heap H locs → lv_has ls 3 [(0, .ref (a 2))] → zWi p l e (headSpec wsX4_hasTermBelowZero rm_X4_hasTermBelowZero).room s m ([.ref (a 2), .int y1] : List Value) below meth c D k a Q H locs (F0 m 35 ls []) := by
    intro S H locs ls hm hP hS hl
    unfold X4_hasTermBelowZero_b35 at hm
    refine lv_iconst (v := (0 : Int32)) hx hb dX4_hasTermBelowZero_35 (by decide) ?_
    exact z_retz hx hb hr hlocks hP hS hm dX4_hasTermBelowZero_36
  have b27 : ∀ (S : ZS) (H : Heap) (locs : List Loc) (ls : Array Slot), X4_hasTermBelowZero_b27 S Q → va_P D vwCl (zWS k a S) H → va_S (zA a s.heap.size) s.heap H locs → lv_has ls 3 [(0, .ref (a 2))] → zWi p l e (headSpec wsX4_hasTermBelowZero rm_X4_hasTermBelowZero).room s m ([.ref (a 2), .int y1] : List Value) below meth c D k a Q H locs (F0 m 27 ls []) := by
    intro S H locs ls hm hP hS hl
    unfold X4_hasTermBelowZero_b27 at hm
    refine lv_iconst (v := (1 : Int32)) hx hb dX4_hasTermBelowZero_27 (by decide) ?_
    exact z_retz hx hb hr hlocks hP hS hm dX4_hasTermBelowZero_28
  have L2 : ∀ (x1 : Int32) (n : Nat) (x2 : Int32) (S : ZS) (H : Heap) (locs : List Loc) (ls : Array Slot), zn (X4_hasTermBelowZero_L2 x1 Q) n (x2, S) → va_P D vwCl (zWS k a S) H → va_S (zA a s.heap.size) s.heap H locs → lv_has ls 3 [(0, .ref (a 2)), (1, .int x1), (2, .int x2)] → zWi p l e (headSpec wsX4_hasTermBelowZero rm_X4_hasTermBelowZero).room s m ([.ref (a 2), .int y1] : List Value) below meth c D k a Q H locs (F0 m 2 ls []) := by
    intro x1 n
    induction n with
    | zero =>
      intro x2 S H locs ls hm
      exact hm.elim
    | succ n ih2 =>
      intro x2 S H locs ls hm hP hS hl
      have hm : X4_hasTermBelowZero_B2 x1 x2 S Q (zn (X4_hasTermBelowZero_L2 x1 Q) n) := hm
      generalize zn (X4_hasTermBelowZero_L2 x1 Q) n = k2 at hm ih2
      unfold X4_hasTermBelowZero_B2 at hm
      refine lv_iload_n hx hb dX4_hasTermBelowZero_2 rfl (lv_at hl 2 rfl) ?_
      refine lv_aload_n hx hb dX4_hasTermBelowZero_3 rfl (lv_at hl 0 rfl) ?_
      refine zg_4_whole hx hb hts i4 hown hK hP (hts _ (List.mem_of_getElem? (i := 1) rfl)) dX4_hasTermBelowZero_4 ?_
      refine zg_5_columns hx hb hts i5 hown hK hP (hts _ (List.mem_of_getElem? (i := 2) rfl)) dX4_hasTermBelowZero_7 ?_
      refine lv_icmp_ge (tgt := 35) hx hb dX4_hasTermBelowZero_10 (by decide) (fun c_10 => ?_) (fun c_10 => ?_)
      · have hm := hm.1 c_10
        exact b35  S _ _ _ hm hP hS (lv_sub hl [0] rfl)
      · have hm := hm.2 c_10
        refine lv_aload_n hx hb dX4_hasTermBelowZero_13 rfl (lv_at hl 0 rfl) ?_
        refine zg_4_whole hx hb hts i4 hown hK hP (hts _ (List.mem_of_getElem? (i := 1) rfl)) dX4_hasTermBelowZero_14 ?_
        refine zg_5_a hx hb hts i5 hown hK hP (hts _ (List.mem_of_getElem? (i := 3) rfl)) dX4_hasTermBelowZero_17 ?_
        refine lv_iload_n hx hb dX4_hasTermBelowZero_20 rfl (lv_at hl 1 rfl) ?_
        obtain ⟨h_21, hm⟩ := hm
        refine z_aald hx hb hK hP zQ_13 h_21 dX4_hasTermBelowZero_21 ?_
        refine lv_iload_n hx hb dX4_hasTermBelowZero_22 rfl (lv_at hl 2 rfl) ?_
        obtain ⟨h_23, hm⟩ := hm
        refine z_iald hx hb hK hP (zRi_13 h_21) h_23 dX4_hasTermBelowZero_23 ?_
        refine lv_if_ge (tgt := 29) hx hb dX4_hasTermBelowZero_24 (by decide) (fun c_24 => ?_) (fun c_24 => ?_)
        · have hm := hm.1 c_24
          obtain ⟨x2_29, ex2_29⟩ : ∃ y : Int32, y = x2 + (1 : Int32) := ⟨_, rfl⟩
          have hm := hm x2_29 ex2_29
          refine lv_iinc (v := x2_29) (lv' := [(2, .int x2_29), (0, .ref (a 2)), (1, .int x1)]) hx hb dX4_hasTermBelowZero_29 hl (k := 2) rfl (by rw [ex2_29]; rfl) (by decide) rfl (fun ls hl => ?_)
          refine lv_goto (tgt := 2) hx hb dX4_hasTermBelowZero_32 (by decide) ?_
          exact ih2 x2_29 S _ _ _ hm hP hS (lv_sub hl [1, 2, 0] rfl)
        · have hm := hm.2 c_24
          exact b27  S _ _ _ hm hP hS (lv_sub hl [0] rfl)
  unfold X4_hasTermBelowZero at hm
  refine lv_iconst (v := (0 : Int32)) hx hb dX4_hasTermBelowZero_0 (by decide) ?_
  refine lv_istore_n (lv' := [(2, .int (0 : Int32)), (0, .ref (a 2)), (1, .int y1)]) hx hb dX4_hasTermBelowZero_1 rfl hl (by decide) rfl (fun ls hl => ?_)
  obtain ⟨n2, hm⟩ := hm
  exact L2 y1 n2 (0 : Int32) S _ _ _ hm hP hS (lv_sub hl [1, 2, 0] rfl)

abbrev rm_X4_isMatching : Room := { frames := 4, cells := 0, slots := 0, locals := 92 }
def X4_isMatching_b98 (S : ZS) (Q : Int32 → ZS → Prop) : Prop :=
  zbit (1 : Int32) ∧ Q (1 : Int32) S
def X4_isMatching_b90 (S : ZS) (Q : Int32 → ZS → Prop) : Prop :=
  zbit (0 : Int32) ∧ Q (0 : Int32) S
def X4_isMatching_B58 (x1 : Int32) (S : ZS) (Q : Int32 → ZS → Prop) (k58 : Int32 × ZS → Prop) : Prop :=
  ((S.1 1 1) ≤ x1 → X4_isMatching_b98 S Q) ∧ (¬ (S.1 1 1) ≤ x1 → vp_in x1 8 ∧ ((S.1 12 (x1).toNatClampNeg) = (1 : Int32) → X4_hasTermBelowZero x1 S (fun r_84 S_84 => (r_84 = 0 → ∀ x1_92 : Int32, x1_92 = x1 + (1 : Int32) → k58 (x1_92, S_84)) ∧ (¬ r_84 = 0 → X4_isMatching_b90 S_84 Q))) ∧ (¬ (S.1 12 (x1).toNatClampNeg) = (1 : Int32) → X4_isMatching_b90 S Q))
def X4_isMatching_L58 (Q : Int32 → ZS → Prop) : (Int32 × ZS) → ((Int32 × ZS) → Prop) → Prop := fun st k58 => X4_isMatching_B58 st.1 st.2 Q k58
def X4_isMatching_b56 (S : ZS) (Q : Int32 → ZS → Prop) : Prop :=
  zl (X4_isMatching_L58 Q) ((0 : Int32), S)
def X4_isMatching_b48 (S : ZS) (Q : Int32 → ZS → Prop) : Prop :=
  zbit (0 : Int32) ∧ Q (0 : Int32) S
def X4_isMatching_B12 (x1 : Int32) (S : ZS) (Q : Int32 → ZS → Prop) (k12 : Int32 × ZS → Prop) : Prop :=
  ((S.1 1 0) ≤ x1 → X4_isMatching_b56 S Q) ∧ (¬ (S.1 1 0) ≤ x1 → vp_in x1 10 ∧ ((S.1 8 (x1).toNatClampNeg) = 0 → vp_in x1 10 ∧ ((S.1 9 (x1).toNatClampNeg) = (1 : Int32) → ∀ x1_50 : Int32, x1_50 = x1 + (1 : Int32) → k12 (x1_50, S)) ∧ (¬ (S.1 9 (x1).toNatClampNeg) = (1 : Int32) → X4_isMatching_b48 S Q)) ∧ (¬ (S.1 8 (x1).toNatClampNeg) = 0 → X4_isMatching_b48 S Q))
def X4_isMatching_L12 (Q : Int32 → ZS → Prop) : (Int32 × ZS) → ((Int32 × ZS) → Prop) → Prop := fun st k12 => X4_isMatching_B12 st.1 st.2 Q k12
def X4_isMatching (S : ZS) (Q : Int32 → ZS → Prop) : Prop :=
  X4_findSigns S (fun r_1 S_1 => (r_1 = (-1 : Int32) → zl (X4_isMatching_L12 Q) ((0 : Int32), S_1)) ∧ (¬ r_1 = (-1 : Int32) → zbit (0 : Int32) ∧ Q (0 : Int32) S_1))
set_option maxHeartbeats 4000000 in
set_option maxRecDepth 100000 in
theorem c_X4_isMatching (l : Launch) (D : va_G) (k : Nat → ClassId) (a : Nat → Nat) (hj : zDj a) (S : ZS) (Q : Int32 → ZS → Prop) (hm : X4_isMatching S Q) (sz : Nat) : Met l yX4_isMatching wsX4_isMatching rm_X4_isMatching (zPc D k a [.ref (a 2)] S sz) (va_Qi Q (zB D k a) (zA a sz)) 0 0 (zA a sz) := by
  refine Met.ofW (cc := cX4_isMatching) (maxL := 2) (ret := (some .boolean)) (by decide) rfl ?_
  intro p e s m args below meth c s₁ B hml hv
  obtain ⟨rfl, hsz, hP, hK⟩ := hv
  have hx := B.exec
  have hb := B.bytes
  have hr := B.returns
  have hts := atoms_spec (ws := wsX4_isMatching) B.pre
  have hown : s.vm.findClass RX4 = some m.cls := findClass_of_methodNamed B.named
  have hlocks := B.notSynchronized
  subst hsz
  have hS : va_S (zA a s.heap.size) s.heap s.heap [] := va_S.rf
  have hF : CallFix p m c cX4_isMatching 2 s _ wsX4_isMatching RX4 := ⟨hx, hb, hml, hown, hts⟩
  have i4 : ∀ w ∈ wsX40, w ∈ wsX4_isMatching := fun _ h => (List.mem_cons_of_mem _ (List.mem_append_left _ (List.mem_append_right _ h)))
  have i5 : ∀ w ∈ wsX50, w ∈ wsX4_isMatching := fun _ h => (List.mem_cons_of_mem _ (List.mem_append_right _ h))
  have hl := lv_entry ([.ref (a 2)]) (n := 2) (Nat.le_of_ble_eq_true rfl)
  rw [lg_entry_eq]
  generalize (lg_sl ([.ref (a 2)]) ++ List.replicate (2 - (lg_sl ([.ref (a 2)])).length) Slot.unset).toArray = ls at hl ⊢
  have hl : lv_has ls 2 [(0, .ref (a 2))] := hl
  have b56 : ∀ (S : ZS) (H : Heap) (locs : List Loc) (ls : Array Slot), X4_isMatching_b56 S Q → va_P D vwCl (zWS k a S) H → va_S (zA a s.heap.size) s.heap H locs → lv_has ls 2 [(0, .ref (a 2))] → zWi p l e (headSpec wsX4_isMatching rm_X4_isMatching).room s m ([.ref (a 2)] : List Value) below meth c D k a Q H locs (F0 m 56 ls []) := by
    intro S H locs ls hm hP hS hl
    unfold X4_isMatching_b56 at hm
    have b98 : ∀ (S : ZS) (H : Heap) (locs : List Loc) (ls : Array Slot), X4_isMatching_b98 S Q → va_P D vwCl (zWS k a S) H → va_S (zA a s.heap.size) s.heap H locs → lv_has ls 2 [(0, .ref (a 2))] → zWi p l e (headSpec wsX4_isMatching rm_X4_isMatching).room s m ([.ref (a 2)] : List Value) below meth c D k a Q H locs (F0 m 98 ls []) := by
      intro S H locs ls hm hP hS hl
      unfold X4_isMatching_b98 at hm
      refine lv_iconst (v := (1 : Int32)) hx hb dX4_isMatching_98 (by decide) ?_
      exact z_retz hx hb hr hlocks hP hS hm dX4_isMatching_99
    have b90 : ∀ (S : ZS) (H : Heap) (locs : List Loc) (ls : Array Slot), X4_isMatching_b90 S Q → va_P D vwCl (zWS k a S) H → va_S (zA a s.heap.size) s.heap H locs → lv_has ls 2 [(0, .ref (a 2))] → zWi p l e (headSpec wsX4_isMatching rm_X4_isMatching).room s m ([.ref (a 2)] : List Value) below meth c D k a Q H locs (F0 m 90 ls []) := by
      intro S H locs ls hm hP hS hl
      unfold X4_isMatching_b90 at hm
      refine lv_iconst (v := (0 : Int32)) hx hb dX4_isMatching_90 (by decide) ?_
      exact z_retz hx hb hr hlocks hP hS hm dX4_isMatching_91
    have L58 : ∀ (n : Nat) (x1 : Int32) (S : ZS) (H : Heap) (locs : List Loc) (ls : Array Slot), zn (X4_isMatching_L58 Q) n (x1, S) → va_P D vwCl (zWS k a S) H → va_S (zA a s.heap.size) s.heap H locs → lv_has ls 2 [(0, .ref (a 2)), (1, .int x1)] → zWi p l e (headSpec wsX4_isMatching rm_X4_isMatching).room s m ([.ref (a 2)] : List Value) below meth c D k a Q H locs (F0 m 58 ls []) := by
      intro n
      induction n with
      | zero =>
        intro x1 S H locs ls hm
        exact hm.elim
      | succ n ih58 =>
        intro x1 S H locs ls hm hP hS hl
        have hm : X4_isMatching_B58 x1 S Q (zn (X4_isMatching_L58 Q) n) := hm
        generalize zn (X4_isMatching_L58 Q) n = k58 at hm ih58
        unfold X4_isMatching_B58 at hm
        refine lv_iload_n hx hb dX4_isMatching_58 rfl (lv_at hl 1 rfl) ?_
        refine lv_aload_n hx hb dX4_isMatching_59 rfl (lv_at hl 0 rfl) ?_
        refine zg_4_whole hx hb hts i4 hown hK hP (hts _ (List.mem_of_getElem? (i := 1) rfl)) dX4_isMatching_60 ?_
        refine zg_5_rows hx hb hts i5 hown hK hP (hts _ (List.mem_of_getElem? (i := 5) rfl)) dX4_isMatching_63 ?_
        refine lv_icmp_ge (tgt := 98) hx hb dX4_isMatching_66 (by decide) (fun c_66 => ?_) (fun c_66 => ?_)
        · have hm := hm.1 c_66
          exact b98  S _ _ _ hm hP hS (lv_sub hl [0] rfl)
        · have hm := hm.2 c_66
          refine lv_aload_n hx hb dX4_isMatching_69 rfl (lv_at hl 0 rfl) ?_
          refine zg_4_whole hx hb hts i4 hown hK hP (hts _ (List.mem_of_getElem? (i := 1) rfl)) dX4_isMatching_70 ?_
          refine zg_5_right hx hb hts i5 hown hK hP (hts _ (List.mem_of_getElem? (i := 6) rfl)) dX4_isMatching_73 ?_
          refine lv_iload_n hx hb dX4_isMatching_76 rfl (lv_at hl 1 rfl) ?_
          obtain ⟨h_77, hm⟩ := hm
          refine z_iald hx hb hK hP zI_12 h_77 dX4_isMatching_77 ?_
          refine lv_iconst (v := (1 : Int32)) hx hb dX4_isMatching_78 (by decide) ?_
          refine lv_icmp_ne (tgt := 90) hx hb dX4_isMatching_79 (by decide) (fun c_79 => ?_) (fun c_79 => ?_)
          · have hm := hm.2 c_79
            exact b90  S _ _ _ hm hP hS (lv_sub hl [0] rfl)
          · have hm := hm.1 c_79
            refine lv_aload_n hx hb dX4_isMatching_82 rfl (lv_at hl 0 rfl) ?_
            refine lv_iload_n hx hb dX4_isMatching_83 rfl (lv_at hl 1 rfl) ?_
            refine z_cVi (As := [.int x1]) (rest := []) hF hK hP hS zO_2 rfl rfl (c_X4_hasTermBelowZero l D k a hj x1 S _ hm _) (cwV 1 hts gX4_isMatching_X4_hasTermBelowZero rfl rfl rfl (by decide +kernel) ⟨Nat.le_of_ble_eq_true rfl, Nat.le_of_ble_eq_true rfl⟩) rfl hl.1 rfl (Nat.le_of_ble_eq_true rfl) dX4_isMatching_84 ⟨Nat.zero_le _, Nat.zero_le _⟩ (fun r_84 S_84 H locs hm hP hS => ?_)
            refine lv_if_eq (tgt := 92) hx hb dX4_isMatching_87 (by decide) (fun c_87 => ?_) (fun c_87 => ?_)
            · have hm := hm.1 c_87
              obtain ⟨x1_92, ex1_92⟩ : ∃ y : Int32, y = x1 + (1 : Int32) := ⟨_, rfl⟩
              have hm := hm x1_92 ex1_92
              refine lv_iinc (v := x1_92) (lv' := [(1, .int x1_92), (0, .ref (a 2))]) hx hb dX4_isMatching_92 hl (k := 1) rfl (by rw [ex1_92]; rfl) (by decide) rfl (fun ls hl => ?_)
              refine lv_goto (tgt := 58) hx hb dX4_isMatching_95 (by decide) ?_
              exact ih58 x1_92 S_84 _ _ _ hm hP hS (lv_sub hl [1, 0] rfl)
            · have hm := hm.2 c_87
              exact b90  S_84 _ _ _ hm hP hS (lv_sub hl [0] rfl)
    refine lv_iconst (v := (0 : Int32)) hx hb dX4_isMatching_56 (by decide) ?_
    refine lv_istore_n (lv' := [(1, .int (0 : Int32)), (0, .ref (a 2))]) hx hb dX4_isMatching_57 rfl hl (by decide) rfl (fun ls hl => ?_)
    obtain ⟨n58, hm⟩ := hm
    exact L58 n58 (0 : Int32) S _ _ _ hm hP hS (lv_sub hl [1, 0] rfl)
  have b48 : ∀ (S : ZS) (H : Heap) (locs : List Loc) (ls : Array Slot), X4_isMatching_b48 S Q → va_P D vwCl (zWS k a S) H → va_S (zA a s.heap.size) s.heap H locs → lv_has ls 2 [(0, .ref (a 2))] → zWi p l e (headSpec wsX4_isMatching rm_X4_isMatching).room s m ([.ref (a 2)] : List Value) below meth c D k a Q H locs (F0 m 48 ls []) := by
    intro S H locs ls hm hP hS hl
    unfold X4_isMatching_b48 at hm
    refine lv_iconst (v := (0 : Int32)) hx hb dX4_isMatching_48 (by decide) ?_
    exact z_retz hx hb hr hlocks hP hS hm dX4_isMatching_49
  have L12 : ∀ (n : Nat) (x1 : Int32) (S : ZS) (H : Heap) (locs : List Loc) (ls : Array Slot), zn (X4_isMatching_L12 Q) n (x1, S) → va_P D vwCl (zWS k a S) H → va_S (zA a s.heap.size) s.heap H locs → lv_has ls 2 [(0, .ref (a 2)), (1, .int x1)] → zWi p l e (headSpec wsX4_isMatching rm_X4_isMatching).room s m ([.ref (a 2)] : List Value) below meth c D k a Q H locs (F0 m 12 ls []) := by
    intro n
    induction n with
    | zero =>
      intro x1 S H locs ls hm
      exact hm.elim
    | succ n ih12 =>
      intro x1 S H locs ls hm hP hS hl
      have hm : X4_isMatching_B12 x1 S Q (zn (X4_isMatching_L12 Q) n) := hm
      generalize zn (X4_isMatching_L12 Q) n = k12 at hm ih12
      unfold X4_isMatching_B12 at hm
      refine lv_iload_n hx hb dX4_isMatching_12 rfl (lv_at hl 1 rfl) ?_
      refine lv_aload_n hx hb dX4_isMatching_13 rfl (lv_at hl 0 rfl) ?_
      refine zg_4_whole hx hb hts i4 hown hK hP (hts _ (List.mem_of_getElem? (i := 1) rfl)) dX4_isMatching_14 ?_
      refine zg_5_columns hx hb hts i5 hown hK hP (hts _ (List.mem_of_getElem? (i := 2) rfl)) dX4_isMatching_17 ?_
      refine lv_icmp_ge (tgt := 56) hx hb dX4_isMatching_20 (by decide) (fun c_20 => ?_) (fun c_20 => ?_)
      · have hm := hm.1 c_20
        exact b56  S _ _ _ hm hP hS (lv_sub hl [0] rfl)
      · have hm := hm.2 c_20
        refine lv_aload_n hx hb dX4_isMatching_23 rfl (lv_at hl 0 rfl) ?_
        refine zg_4_whole hx hb hts i4 hown hK hP (hts _ (List.mem_of_getElem? (i := 1) rfl)) dX4_isMatching_24 ?_
        refine zg_5_low hx hb hts i5 hown hK hP (hts _ (List.mem_of_getElem? (i := 3) rfl)) dX4_isMatching_27 ?_
        refine lv_iload_n hx hb dX4_isMatching_30 rfl (lv_at hl 1 rfl) ?_
        obtain ⟨h_31, hm⟩ := hm
        refine z_iald hx hb hK hP zI_8 h_31 dX4_isMatching_31 ?_
        refine lv_if_ne (tgt := 48) hx hb dX4_isMatching_32 (by decide) (fun c_32 => ?_) (fun c_32 => ?_)
        · have hm := hm.2 c_32
          exact b48  S _ _ _ hm hP hS (lv_sub hl [0] rfl)
        · have hm := hm.1 c_32
          refine lv_aload_n hx hb dX4_isMatching_35 rfl (lv_at hl 0 rfl) ?_
          refine zg_4_whole hx hb hts i4 hown hK hP (hts _ (List.mem_of_getElem? (i := 1) rfl)) dX4_isMatching_36 ?_
          refine zg_5_high hx hb hts i5 hown hK hP (hts _ (List.mem_of_getElem? (i := 4) rfl)) dX4_isMatching_39 ?_
          refine lv_iload_n hx hb dX4_isMatching_42 rfl (lv_at hl 1 rfl) ?_
          obtain ⟨h_43, hm⟩ := hm
          refine z_iald hx hb hK hP zI_9 h_43 dX4_isMatching_43 ?_
          refine lv_iconst (v := (1 : Int32)) hx hb dX4_isMatching_44 (by decide) ?_
          refine lv_icmp_eq (tgt := 50) hx hb dX4_isMatching_45 (by decide) (fun c_45 => ?_) (fun c_45 => ?_)
          · have hm := hm.1 c_45
            obtain ⟨x1_50, ex1_50⟩ : ∃ y : Int32, y = x1 + (1 : Int32) := ⟨_, rfl⟩
            have hm := hm x1_50 ex1_50
            refine lv_iinc (v := x1_50) (lv' := [(1, .int x1_50), (0, .ref (a 2))]) hx hb dX4_isMatching_50 hl (k := 1) rfl (by rw [ex1_50]; rfl) (by decide) rfl (fun ls hl => ?_)
            refine lv_goto (tgt := 12) hx hb dX4_isMatching_53 (by decide) ?_
            exact ih12 x1_50 S _ _ _ hm hP hS (lv_sub hl [1, 0] rfl)
          · have hm := hm.2 c_45
            exact b48  S _ _ _ hm hP hS (lv_sub hl [0] rfl)
  unfold X4_isMatching at hm
  refine lv_aload_n hx hb dX4_isMatching_0 rfl (lv_at hl 0 rfl) ?_
  refine z_cVi (As := []) (rest := []) hF hK hP hS zO_2 rfl rfl (c_X4_findSigns l D k a hj  S _ hm _) (cwV 0 hts gX4_isMatching_X4_findSigns rfl rfl rfl (by decide +kernel) ⟨Nat.le_of_ble_eq_true rfl, Nat.le_of_ble_eq_true rfl⟩) rfl hl.1 rfl (Nat.le_of_ble_eq_true rfl) dX4_isMatching_1 ⟨Nat.zero_le _, Nat.zero_le _⟩ (fun r_1 S_1 H locs hm hP hS => ?_)
  refine lv_iconst (v := (-1 : Int32)) hx hb dX4_isMatching_4 (by decide) ?_
  refine lv_icmp_eq (tgt := 10) hx hb dX4_isMatching_5 (by decide) (fun c_5 => ?_) (fun c_5 => ?_)
  · have hm := hm.1 c_5
    refine lv_iconst (v := (0 : Int32)) hx hb dX4_isMatching_10 (by decide) ?_
    refine lv_istore_n (lv' := [(1, .int (0 : Int32)), (0, .ref (a 2))]) hx hb dX4_isMatching_11 rfl hl (by decide) rfl (fun ls hl => ?_)
    obtain ⟨n12, hm⟩ := hm
    exact L12 n12 (0 : Int32) S_1 _ _ _ hm hP hS (lv_sub hl [1, 0] rfl)
  · have hm := hm.2 c_5
    refine lv_iconst (v := (0 : Int32)) hx hb dX4_isMatching_8 (by decide) ?_
    exact z_retz hx hb hr hlocks hP hS hm dX4_isMatching_9

abbrev rm_X4_canBeWalked : Room := { frames := 1, cells := 0, slots := 0, locals := 23 }
def X4_canBeWalked_b54 (t0 : Int32) (S : ZS) (Q : Int32 → ZS → Prop) : Prop :=
  zbit t0 ∧ Q t0 S
def X4_canBeWalked_b53 (S : ZS) (Q : Int32 → ZS → Prop) : Prop :=
  X4_canBeWalked_b54 (0 : Int32) S Q
def X4_canBeWalked (y1 : Int32) (S : ZS) (Q : Int32 → ZS → Prop) : Prop :=
  X5_countTerms y1 S (fun r_5 S_5 => (r_5 = (2 : Int32) → vp_in y1 10 ∧ ((S_5.1 8 (y1).toNatClampNeg) = 0 → vp_in y1 10 ∧ ((S_5.1 9 (y1).toNatClampNeg) < (1 : Int32) → X4_canBeWalked_b53 S_5 Q) ∧ (¬ (S_5.1 9 (y1).toNatClampNeg) < (1 : Int32) → vp_in y1 10 ∧ ((S_5.1 10 (y1).toNatClampNeg) < 0 → X4_canBeWalked_b53 S_5 Q) ∧ (¬ (S_5.1 10 (y1).toNatClampNeg) < 0 → X4_canBeWalked_b54 (1 : Int32) S_5 Q))) ∧ (¬ (S_5.1 8 (y1).toNatClampNeg) = 0 → X4_canBeWalked_b53 S_5 Q)) ∧ (¬ r_5 = (2 : Int32) → X4_canBeWalked_b53 S_5 Q))
set_option maxHeartbeats 4000000 in
set_option maxRecDepth 100000 in
theorem c_X4_canBeWalked (l : Launch) (D : va_G) (k : Nat → ClassId) (a : Nat → Nat) (hj : zDj a) (y1 : Int32) (S : ZS) (Q : Int32 → ZS → Prop) (hm : X4_canBeWalked y1 S Q) (sz : Nat) : Met l yX4_canBeWalked wsX4_canBeWalked rm_X4_canBeWalked (zPc D k a [.ref (a 2), .int y1] S sz) (va_Qi Q (zB D k a) (zA a sz)) 0 0 (zA a sz) := by
  refine Met.ofW (cc := cX4_canBeWalked) (maxL := 2) (ret := (some .boolean)) (by decide) rfl ?_
  intro p e s m args below meth c s₁ B hml hv
  obtain ⟨rfl, hsz, hP, hK⟩ := hv
  have hx := B.exec
  have hb := B.bytes
  have hr := B.returns
  have hts := atoms_spec (ws := wsX4_canBeWalked) B.pre
  have hown : s.vm.findClass RX4 = some m.cls := findClass_of_methodNamed B.named
  have hlocks := B.notSynchronized
  subst hsz
  have hS : va_S (zA a s.heap.size) s.heap s.heap [] := va_S.rf
  have hF : CallFix p m c cX4_canBeWalked 2 s _ wsX4_canBeWalked RX4 := ⟨hx, hb, hml, hown, hts⟩
  have i4 : ∀ w ∈ wsX40, w ∈ wsX4_canBeWalked := fun _ h => (List.mem_cons_of_mem _ (List.mem_append_left _ (List.mem_append_right _ h)))
  have i5 : ∀ w ∈ wsX50, w ∈ wsX4_canBeWalked := fun _ h => (List.mem_cons_of_mem _ (List.mem_append_right _ h))
  have hl := lv_entry ([.ref (a 2), .int y1]) (n := 2) (Nat.le_of_ble_eq_true rfl)
  rw [lg_entry_eq]
  generalize (lg_sl ([.ref (a 2), .int y1]) ++ List.replicate (2 - (lg_sl ([.ref (a 2), .int y1])).length) Slot.unset).toArray = ls at hl ⊢
  have hl : lv_has ls 2 [(0, .ref (a 2)), (1, .int y1)] := hl
  have b54 : ∀ (t0 : Int32) (S : ZS) (H : Heap) (locs : List Loc) (ls : Array Slot), X4_canBeWalked_b54 t0 S Q → va_P D vwCl (zWS k a S) H → va_S (zA a s.heap.size) s.heap H locs → lv_has ls 2 [(0, .ref (a 2))] → zWi p l e (headSpec wsX4_canBeWalked rm_X4_canBeWalked).room s m ([.ref (a 2), .int y1] : List Value) below meth c D k a Q H locs (F0 m 54 ls [.int t0]) := by
    intro t0 S H locs ls hm hP hS hl
    unfold X4_canBeWalked_b54 at hm
    exact z_retz hx hb hr hlocks hP hS hm dX4_canBeWalked_54
  have b53 : ∀ (S : ZS) (H : Heap) (locs : List Loc) (ls : Array Slot), X4_canBeWalked_b53 S Q → va_P D vwCl (zWS k a S) H → va_S (zA a s.heap.size) s.heap H locs → lv_has ls 2 [(0, .ref (a 2))] → zWi p l e (headSpec wsX4_canBeWalked rm_X4_canBeWalked).room s m ([.ref (a 2), .int y1] : List Value) below meth c D k a Q H locs (F0 m 53 ls []) := by
    intro S H locs ls hm hP hS hl
    unfold X4_canBeWalked_b53 at hm
    refine lv_iconst (v := (0 : Int32)) hx hb dX4_canBeWalked_53 (by decide) ?_
    exact b54 (0 : Int32) S _ _ _ hm hP hS (lv_sub hl [0] rfl)
  unfold X4_canBeWalked at hm
  refine lv_aload_n hx hb dX4_canBeWalked_0 rfl (lv_at hl 0 rfl) ?_
  refine zg_4_whole hx hb hts i4 hown hK hP (hts _ (List.mem_of_getElem? (i := 1) rfl)) dX4_canBeWalked_1 ?_
  refine lv_iload_n hx hb dX4_canBeWalked_4 rfl (lv_at hl 1 rfl) ?_
  refine z_cVi (As := [.int y1]) (rest := []) hF hK hP hS zO_1 rfl rfl (c_X5_countTerms l D k a hj y1 S _ hm _) (cwV 1 hts gX4_canBeWalked_X5_countTerms rfl rfl rfl (by decide +kernel) ⟨Nat.le_of_ble_eq_true rfl, Nat.le_of_ble_eq_true rfl⟩) rfl hl.1 rfl (Nat.le_of_ble_eq_true rfl) dX4_canBeWalked_5 ⟨Nat.zero_le _, Nat.zero_le _⟩ (fun r_5 S_5 H locs hm hP hS => ?_)
  refine lv_iconst (v := (2 : Int32)) hx hb dX4_canBeWalked_8 (by decide) ?_
  refine lv_icmp_ne (tgt := 53) hx hb dX4_canBeWalked_9 (by decide) (fun c_9 => ?_) (fun c_9 => ?_)
  · have hm := hm.2 c_9
    exact b53  S_5 _ _ _ hm hP hS (lv_sub hl [0] rfl)
  · have hm := hm.1 c_9
    refine lv_aload_n hx hb dX4_canBeWalked_12 rfl (lv_at hl 0 rfl) ?_
    refine zg_4_whole hx hb hts i4 hown hK hP (hts _ (List.mem_of_getElem? (i := 1) rfl)) dX4_canBeWalked_13 ?_
    refine zg_5_low hx hb hts i5 hown hK hP (hts _ (List.mem_of_getElem? (i := 2) rfl)) dX4_canBeWalked_16 ?_
    refine lv_iload_n hx hb dX4_canBeWalked_19 rfl (lv_at hl 1 rfl) ?_
    obtain ⟨h_20, hm⟩ := hm
    refine z_iald hx hb hK hP zI_8 h_20 dX4_canBeWalked_20 ?_
    refine lv_if_ne (tgt := 53) hx hb dX4_canBeWalked_21 (by decide) (fun c_21 => ?_) (fun c_21 => ?_)
    · have hm := hm.2 c_21
      exact b53  S_5 _ _ _ hm hP hS (lv_sub hl [0] rfl)
    · have hm := hm.1 c_21
      refine lv_aload_n hx hb dX4_canBeWalked_24 rfl (lv_at hl 0 rfl) ?_
      refine zg_4_whole hx hb hts i4 hown hK hP (hts _ (List.mem_of_getElem? (i := 1) rfl)) dX4_canBeWalked_25 ?_
      refine zg_5_high hx hb hts i5 hown hK hP (hts _ (List.mem_of_getElem? (i := 3) rfl)) dX4_canBeWalked_28 ?_
      refine lv_iload_n hx hb dX4_canBeWalked_31 rfl (lv_at hl 1 rfl) ?_
      obtain ⟨h_32, hm⟩ := hm
      refine z_iald hx hb hK hP zI_9 h_32 dX4_canBeWalked_32 ?_
      refine lv_iconst (v := (1 : Int32)) hx hb dX4_canBeWalked_33 (by decide) ?_
      refine lv_icmp_lt (tgt := 53) hx hb dX4_canBeWalked_34 (by decide) (fun c_34 => ?_) (fun c_34 => ?_)
      · have hm := hm.1 c_34
        exact b53  S_5 _ _ _ hm hP hS (lv_sub hl [0] rfl)
      · have hm := hm.2 c_34
        refine lv_aload_n hx hb dX4_canBeWalked_37 rfl (lv_at hl 0 rfl) ?_
        refine zg_4_whole hx hb hts i4 hown hK hP (hts _ (List.mem_of_getElem? (i := 1) rfl)) dX4_canBeWalked_38 ?_
        refine zg_5_cost hx hb hts i5 hown hK hP (hts _ (List.mem_of_getElem? (i := 4) rfl)) dX4_canBeWalked_41 ?_
        refine lv_iload_n hx hb dX4_canBeWalked_44 rfl (lv_at hl 1 rfl) ?_
        obtain ⟨h_45, hm⟩ := hm
        refine z_iald hx hb hK hP zI_10 h_45 dX4_canBeWalked_45 ?_
        refine lv_if_lt (tgt := 53) hx hb dX4_canBeWalked_46 (by decide) (fun c_46 => ?_) (fun c_46 => ?_)
        · have hm := hm.1 c_46
          exact b53  S_5 _ _ _ hm hP hS (lv_sub hl [0] rfl)
        · have hm := hm.2 c_46
          refine lv_iconst (v := (1 : Int32)) hx hb dX4_canBeWalked_49 (by decide) ?_
          refine lv_goto (tgt := 54) hx hb dX4_canBeWalked_50 (by decide) ?_
          exact b54 (1 : Int32) S_5 _ _ _ hm hP hS (lv_sub hl [0] rfl)

abbrev rm_X4_hasTwoEnds : Room := { frames := 0, cells := 0, slots := 0, locals := 0 }
def X4_hasTwoEnds_b110 (t0 : Int32) (S : ZS) (Q : Int32 → ZS → Prop) : Prop :=
  zbit t0 ∧ Q t0 S
def X4_hasTwoEnds_b109 (S : ZS) (Q : Int32 → ZS → Prop) : Prop :=
  X4_hasTwoEnds_b110 (0 : Int32) S Q
def X4_hasTwoEnds_b80 (x1 : Int32) (x2 : Int32) (S : ZS) (Q : Int32 → ZS → Prop) : Prop :=
  (x1 = (-1 : Int32) → X4_hasTwoEnds_b109 S Q) ∧ (¬ x1 = (-1 : Int32) → (x2 = (-1 : Int32) → X4_hasTwoEnds_b109 S Q) ∧ (¬ x2 = (-1 : Int32) → vp_in x1 8 ∧ vp_in x2 8 ∧ ((S.1 22 (x1).toNatClampNeg) = (S.1 22 (x2).toNatClampNeg) → X4_hasTwoEnds_b110 (1 : Int32) S Q) ∧ (¬ (S.1 22 (x1).toNatClampNeg) = (S.1 22 (x2).toNatClampNeg) → X4_hasTwoEnds_b109 S Q)))
def X4_hasTwoEnds_b74 (x1 : Int32) (x2 : Int32) (x3 : Int32) (S : ZS) (Q : Int32 → ZS → Prop) (k6 : Int32 × Int32 × Int32 × ZS → Prop) : Prop :=
  ∀ x3_74 : Int32, x3_74 = x3 + (1 : Int32) → k6 (x1, x2, x3_74, S)
def X4_hasTwoEnds_b72 (S : ZS) (Q : Int32 → ZS → Prop) : Prop :=
  zbit (0 : Int32) ∧ Q (0 : Int32) S
def X4_hasTwoEnds_b67 (x1 : Int32) (x2 : Int32) (x3 : Int32) (x4 : Int32) (S : ZS) (Q : Int32 → ZS → Prop) (k6 : Int32 × Int32 × Int32 × ZS → Prop) : Prop :=
  (x4 = 0 → X4_hasTwoEnds_b74 x1 x2 x3 S Q k6) ∧ (¬ x4 = 0 → X4_hasTwoEnds_b72 S Q)
def X4_hasTwoEnds_b51 (x1 : Int32) (x2 : Int32) (x3 : Int32) (x4 : Int32) (S : ZS) (Q : Int32 → ZS → Prop) (k6 : Int32 × Int32 × Int32 × ZS → Prop) : Prop :=
  (x4 = (-1 : Int32) → (x1 = (-1 : Int32) → X4_hasTwoEnds_b74 x3 x2 x3 S Q k6) ∧ (¬ x1 = (-1 : Int32) → X4_hasTwoEnds_b67 x1 x2 x3 x4 S Q k6)) ∧ (¬ x4 = (-1 : Int32) → X4_hasTwoEnds_b67 x1 x2 x3 x4 S Q k6)
def X4_hasTwoEnds_B6 (x1 : Int32) (x2 : Int32) (x3 : Int32) (S : ZS) (Q : Int32 → ZS → Prop) (k6 : Int32 × Int32 × Int32 × ZS → Prop) : Prop :=
  ((S.1 1 1) ≤ x3 → X4_hasTwoEnds_b80 x1 x2 S Q) ∧ (¬ (S.1 1 1) ≤ x3 → vp_in x3 8 ∧ vp_in x3 8 ∧ ∀ x4_33 : Int32, x4_33 = ((S.1 12 (x3).toNatClampNeg) * (S.1 23 (x3).toNatClampNeg)) → (x4_33 = (1 : Int32) → (x2 = (-1 : Int32) → X4_hasTwoEnds_b74 x1 x3 x3 S Q k6) ∧ (¬ x2 = (-1 : Int32) → X4_hasTwoEnds_b51 x1 x2 x3 x4_33 S Q k6)) ∧ (¬ x4_33 = (1 : Int32) → X4_hasTwoEnds_b51 x1 x2 x3 x4_33 S Q k6))
def X4_hasTwoEnds_L6 (Q : Int32 → ZS → Prop) : (Int32 × Int32 × Int32 × ZS) → ((Int32 × Int32 × Int32 × ZS) → Prop) → Prop := fun st k6 => X4_hasTwoEnds_B6 st.1 st.2.1 st.2.2.1 st.2.2.2 Q k6
def X4_hasTwoEnds (S : ZS) (Q : Int32 → ZS → Prop) : Prop :=
  zl (X4_hasTwoEnds_L6 Q) ((-1 : Int32), (-1 : Int32), (0 : Int32), S)
set_option maxHeartbeats 4000000 in
set_option maxRecDepth 100000 in
theorem c_X4_hasTwoEnds (l : Launch) (D : va_G) (k : Nat → ClassId) (a : Nat → Nat) (hj : zDj a) (S : ZS) (Q : Int32 → ZS → Prop) (hm : X4_hasTwoEnds S Q) (sz : Nat) : Met l yX4_hasTwoEnds wsX4_hasTwoEnds rm_X4_hasTwoEnds (zPc D k a [.ref (a 2)] S sz) (va_Qi Q (zB D k a) (zA a sz)) 0 0 (zA a sz) := by
  refine Met.ofW (cc := cX4_hasTwoEnds) (maxL := 5) (ret := (some .boolean)) (by decide) rfl ?_
  intro p e s m args below meth c s₁ B hml hv
  obtain ⟨rfl, hsz, hP, hK⟩ := hv
  have hx := B.exec
  have hb := B.bytes
  have hr := B.returns
  have hts := atoms_spec (ws := wsX4_hasTwoEnds) B.pre
  have hown : s.vm.findClass RX4 = some m.cls := findClass_of_methodNamed B.named
  have hlocks := B.notSynchronized
  subst hsz
  have hS : va_S (zA a s.heap.size) s.heap s.heap [] := va_S.rf
  have hF : CallFix p m c cX4_hasTwoEnds 5 s _ wsX4_hasTwoEnds RX4 := ⟨hx, hb, hml, hown, hts⟩
  have i4 : ∀ w ∈ wsX40, w ∈ wsX4_hasTwoEnds := fun _ h => (List.mem_cons_of_mem _ (List.mem_append_left _ (List.mem_append_right _ h)))
  have i5 : ∀ w ∈ wsX50, w ∈ wsX4_hasTwoEnds := fun _ h => (List.mem_cons_of_mem _ (List.mem_append_right _ h))
  have hl := lv_entry ([.ref (a 2)]) (n := 5) (Nat.le_of_ble_eq_true rfl)
  rw [lg_entry_eq]
  generalize (lg_sl ([.ref (a 2)]) ++ List.replicate (5 - (lg_sl ([.ref (a 2)])).length) Slot.unset).toArray = ls at hl ⊢
  have hl : lv_has ls 5 [(0, .ref (a 2))] := hl
  have b80 : ∀ (x1 : Int32) (x2 : Int32) (S : ZS) (H : Heap) (locs : List Loc) (ls : Array Slot), X4_hasTwoEnds_b80 x1 x2 S Q → va_P D vwCl (zWS k a S) H → va_S (zA a s.heap.size) s.heap H locs → lv_has ls 5 [(0, .ref (a 2)), (1, .int x1), (2, .int x2)] → zWi p l e (headSpec wsX4_hasTwoEnds rm_X4_hasTwoEnds).room s m ([.ref (a 2)] : List Value) below meth c D k a Q H locs (F0 m 80 ls []) := by
    intro x1 x2 S H locs ls hm hP hS hl
    unfold X4_hasTwoEnds_b80 at hm
    have b110 : ∀ (t0 : Int32) (S : ZS) (H : Heap) (locs : List Loc) (ls : Array Slot), X4_hasTwoEnds_b110 t0 S Q → va_P D vwCl (zWS k a S) H → va_S (zA a s.heap.size) s.heap H locs → lv_has ls 5 [(0, .ref (a 2))] → zWi p l e (headSpec wsX4_hasTwoEnds rm_X4_hasTwoEnds).room s m ([.ref (a 2)] : List Value) below meth c D k a Q H locs (F0 m 110 ls [.int t0]) := by
      intro t0 S H locs ls hm hP hS hl
      unfold X4_hasTwoEnds_b110 at hm
      exact z_retz hx hb hr hlocks hP hS hm dX4_hasTwoEnds_110
    have b109 : ∀ (S : ZS) (H : Heap) (locs : List Loc) (ls : Array Slot), X4_hasTwoEnds_b109 S Q → va_P D vwCl (zWS k a S) H → va_S (zA a s.heap.size) s.heap H locs → lv_has ls 5 [(0, .ref (a 2))] → zWi p l e (headSpec wsX4_hasTwoEnds rm_X4_hasTwoEnds).room s m ([.ref (a 2)] : List Value) below meth c D k a Q H locs (F0 m 109 ls []) := by
      intro S H locs ls hm hP hS hl
      unfold X4_hasTwoEnds_b109 at hm
      refine lv_iconst (v := (0 : Int32)) hx hb dX4_hasTwoEnds_109 (by decide) ?_
      exact b110 (0 : Int32) S _ _ _ hm hP hS (lv_sub hl [0] rfl)
    refine lv_iload_n hx hb dX4_hasTwoEnds_80 rfl (lv_at hl 1 rfl) ?_
    refine lv_iconst (v := (-1 : Int32)) hx hb dX4_hasTwoEnds_81 (by decide) ?_
    refine lv_icmp_eq (tgt := 109) hx hb dX4_hasTwoEnds_82 (by decide) (fun c_82 => ?_) (fun c_82 => ?_)
    · have hm := hm.1 c_82
      exact b109  S _ _ _ hm hP hS (lv_sub hl [0] rfl)
    · have hm := hm.2 c_82
      refine lv_iload_n hx hb dX4_hasTwoEnds_85 rfl (lv_at hl 2 rfl) ?_
      refine lv_iconst (v := (-1 : Int32)) hx hb dX4_hasTwoEnds_86 (by decide) ?_
      refine lv_icmp_eq (tgt := 109) hx hb dX4_hasTwoEnds_87 (by decide) (fun c_87 => ?_) (fun c_87 => ?_)
      · have hm := hm.1 c_87
        exact b109  S _ _ _ hm hP hS (lv_sub hl [0] rfl)
      · have hm := hm.2 c_87
        refine lv_aload_n hx hb dX4_hasTwoEnds_90 rfl (lv_at hl 0 rfl) ?_
        refine zg_4_leastRow hx hb hts i4 hown hK hP (hts _ (List.mem_of_getElem? (i := 5) rfl)) dX4_hasTwoEnds_91 ?_
        refine lv_iload_n hx hb dX4_hasTwoEnds_94 rfl (lv_at hl 1 rfl) ?_
        obtain ⟨h_95, hm⟩ := hm
        refine z_iald hx hb hK hP zI_22 h_95 dX4_hasTwoEnds_95 ?_
        refine lv_aload_n hx hb dX4_hasTwoEnds_96 rfl (lv_at hl 0 rfl) ?_
        refine zg_4_leastRow hx hb hts i4 hown hK hP (hts _ (List.mem_of_getElem? (i := 5) rfl)) dX4_hasTwoEnds_97 ?_
        refine lv_iload_n hx hb dX4_hasTwoEnds_100 rfl (lv_at hl 2 rfl) ?_
        obtain ⟨h_101, hm⟩ := hm
        refine z_iald hx hb hK hP zI_22 h_101 dX4_hasTwoEnds_101 ?_
        refine lv_icmp_ne (tgt := 109) hx hb dX4_hasTwoEnds_102 (by decide) (fun c_102 => ?_) (fun c_102 => ?_)
        · have hm := hm.2 c_102
          exact b109  S _ _ _ hm hP hS (lv_sub hl [0] rfl)
        · have hm := hm.1 c_102
          refine lv_iconst (v := (1 : Int32)) hx hb dX4_hasTwoEnds_105 (by decide) ?_
          refine lv_goto (tgt := 110) hx hb dX4_hasTwoEnds_106 (by decide) ?_
          exact b110 (1 : Int32) S _ _ _ hm hP hS (lv_sub hl [0] rfl)
  have L6 : ∀ (n : Nat) (x1 : Int32) (x2 : Int32) (x3 : Int32) (S : ZS) (H : Heap) (locs : List Loc) (ls : Array Slot), zn (X4_hasTwoEnds_L6 Q) n (x1, x2, x3, S) → va_P D vwCl (zWS k a S) H → va_S (zA a s.heap.size) s.heap H locs → lv_has ls 5 [(0, .ref (a 2)), (1, .int x1), (2, .int x2), (3, .int x3)] → zWi p l e (headSpec wsX4_hasTwoEnds rm_X4_hasTwoEnds).room s m ([.ref (a 2)] : List Value) below meth c D k a Q H locs (F0 m 6 ls []) := by
    intro n
    induction n with
    | zero =>
      intro x1 x2 x3 S H locs ls hm
      exact hm.elim
    | succ n ih6 =>
      intro x1 x2 x3 S H locs ls hm hP hS hl
      have hm : X4_hasTwoEnds_B6 x1 x2 x3 S Q (zn (X4_hasTwoEnds_L6 Q) n) := hm
      generalize zn (X4_hasTwoEnds_L6 Q) n = k6 at hm ih6
      unfold X4_hasTwoEnds_B6 at hm
      have b74 : ∀ (x1 : Int32) (x2 : Int32) (x3 : Int32) (S : ZS) (H : Heap) (locs : List Loc) (ls : Array Slot), X4_hasTwoEnds_b74 x1 x2 x3 S Q k6 → va_P D vwCl (zWS k a S) H → va_S (zA a s.heap.size) s.heap H locs → lv_has ls 5 [(0, .ref (a 2)), (1, .int x1), (2, .int x2), (3, .int x3)] → zWi p l e (headSpec wsX4_hasTwoEnds rm_X4_hasTwoEnds).room s m ([.ref (a 2)] : List Value) below meth c D k a Q H locs (F0 m 74 ls []) := by
        intro x1 x2 x3 S H locs ls hm hP hS hl
        unfold X4_hasTwoEnds_b74 at hm
        obtain ⟨x3_74, ex3_74⟩ : ∃ y : Int32, y = x3 + (1 : Int32) := ⟨_, rfl⟩
        have hm := hm x3_74 ex3_74
        refine lv_iinc (v := x3_74) (lv' := [(3, .int x3_74), (0, .ref (a 2)), (1, .int x1), (2, .int x2)]) hx hb dX4_hasTwoEnds_74 hl (k := 3) rfl (by rw [ex3_74]; rfl) (by decide) rfl (fun ls hl => ?_)
        refine lv_goto (tgt := 6) hx hb dX4_hasTwoEnds_77 (by decide) ?_
        exact ih6 x1 x2 x3_74 S _ _ _ hm hP hS (lv_sub hl [1, 2, 3, 0] rfl)
      have b51 : ∀ (x1 : Int32) (x2 : Int32) (x3 : Int32) (x4 : Int32) (S : ZS) (H : Heap) (locs : List Loc) (ls : Array Slot), X4_hasTwoEnds_b51 x1 x2 x3 x4 S Q k6 → va_P D vwCl (zWS k a S) H → va_S (zA a s.heap.size) s.heap H locs → lv_has ls 5 [(0, .ref (a 2)), (1, .int x1), (2, .int x2), (3, .int x3), (4, .int x4)] → zWi p l e (headSpec wsX4_hasTwoEnds rm_X4_hasTwoEnds).room s m ([.ref (a 2)] : List Value) below meth c D k a Q H locs (F0 m 51 ls []) := by
        intro x1 x2 x3 x4 S H locs ls hm hP hS hl
        unfold X4_hasTwoEnds_b51 at hm
        have b67 : ∀ (x1 : Int32) (x2 : Int32) (x3 : Int32) (x4 : Int32) (S : ZS) (H : Heap) (locs : List Loc) (ls : Array Slot), X4_hasTwoEnds_b67 x1 x2 x3 x4 S Q k6 → va_P D vwCl (zWS k a S) H → va_S (zA a s.heap.size) s.heap H locs → lv_has ls 5 [(0, .ref (a 2)), (1, .int x1), (2, .int x2), (3, .int x3), (4, .int x4)] → zWi p l e (headSpec wsX4_hasTwoEnds rm_X4_hasTwoEnds).room s m ([.ref (a 2)] : List Value) below meth c D k a Q H locs (F0 m 67 ls []) := by
          intro x1 x2 x3 x4 S H locs ls hm hP hS hl
          unfold X4_hasTwoEnds_b67 at hm
          have b72 : ∀ (S : ZS) (H : Heap) (locs : List Loc) (ls : Array Slot), X4_hasTwoEnds_b72 S Q → va_P D vwCl (zWS k a S) H → va_S (zA a s.heap.size) s.heap H locs → lv_has ls 5 [(0, .ref (a 2))] → zWi p l e (headSpec wsX4_hasTwoEnds rm_X4_hasTwoEnds).room s m ([.ref (a 2)] : List Value) below meth c D k a Q H locs (F0 m 72 ls []) := by
            intro S H locs ls hm hP hS hl
            unfold X4_hasTwoEnds_b72 at hm
            refine lv_iconst (v := (0 : Int32)) hx hb dX4_hasTwoEnds_72 (by decide) ?_
            exact z_retz hx hb hr hlocks hP hS hm dX4_hasTwoEnds_73
          refine lv_iload hx hb dX4_hasTwoEnds_67 (lv_at hl 4 rfl) ?_
          refine lv_if_eq (tgt := 74) hx hb dX4_hasTwoEnds_69 (by decide) (fun c_69 => ?_) (fun c_69 => ?_)
          · have hm := hm.1 c_69
            exact b74 x1 x2 x3 S _ _ _ hm hP hS (lv_sub hl [0, 1, 2, 3] rfl)
          · have hm := hm.2 c_69
            exact b72  S _ _ _ hm hP hS (lv_sub hl [0] rfl)
        refine lv_iload hx hb dX4_hasTwoEnds_51 (lv_at hl 4 rfl) ?_
        refine lv_iconst (v := (-1 : Int32)) hx hb dX4_hasTwoEnds_53 (by decide) ?_
        refine lv_icmp_ne (tgt := 67) hx hb dX4_hasTwoEnds_54 (by decide) (fun c_54 => ?_) (fun c_54 => ?_)
        · have hm := hm.2 c_54
          exact b67 x1 x2 x3 x4 S _ _ _ hm hP hS (lv_sub hl [0, 1, 2, 3, 4] rfl)
        · have hm := hm.1 c_54
          refine lv_iload_n hx hb dX4_hasTwoEnds_57 rfl (lv_at hl 1 rfl) ?_
          refine lv_iconst (v := (-1 : Int32)) hx hb dX4_hasTwoEnds_58 (by decide) ?_
          refine lv_icmp_ne (tgt := 67) hx hb dX4_hasTwoEnds_59 (by decide) (fun c_59 => ?_) (fun c_59 => ?_)
          · have hm := hm.2 c_59
            exact b67 x1 x2 x3 x4 S _ _ _ hm hP hS (lv_sub hl [0, 1, 2, 3, 4] rfl)
          · have hm := hm.1 c_59
            refine lv_iload_n hx hb dX4_hasTwoEnds_62 rfl (lv_at hl 3 rfl) ?_
            refine lv_istore_n (lv' := [(1, .int x3), (0, .ref (a 2)), (2, .int x2), (3, .int x3), (4, .int x4)]) hx hb dX4_hasTwoEnds_63 rfl hl (by decide) rfl (fun ls hl => ?_)
            refine lv_goto (tgt := 74) hx hb dX4_hasTwoEnds_64 (by decide) ?_
            exact b74 x3 x2 x3 S _ _ _ hm hP hS (lv_sub hl [1, 0, 2, 3] rfl)
      refine lv_iload_n hx hb dX4_hasTwoEnds_6 rfl (lv_at hl 3 rfl) ?_
      refine lv_aload_n hx hb dX4_hasTwoEnds_7 rfl (lv_at hl 0 rfl) ?_
      refine zg_4_whole hx hb hts i4 hown hK hP (hts _ (List.mem_of_getElem? (i := 1) rfl)) dX4_hasTwoEnds_8 ?_
      refine zg_5_rows hx hb hts i5 hown hK hP (hts _ (List.mem_of_getElem? (i := 2) rfl)) dX4_hasTwoEnds_11 ?_
      refine lv_icmp_ge (tgt := 80) hx hb dX4_hasTwoEnds_14 (by decide) (fun c_14 => ?_) (fun c_14 => ?_)
      · have hm := hm.1 c_14
        exact b80 x1 x2 S _ _ _ hm hP hS (lv_sub hl [0, 1, 2] rfl)
      · have hm := hm.2 c_14
        refine lv_aload_n hx hb dX4_hasTwoEnds_17 rfl (lv_at hl 0 rfl) ?_
        refine zg_4_whole hx hb hts i4 hown hK hP (hts _ (List.mem_of_getElem? (i := 1) rfl)) dX4_hasTwoEnds_18 ?_
        refine zg_5_right hx hb hts i5 hown hK hP (hts _ (List.mem_of_getElem? (i := 3) rfl)) dX4_hasTwoEnds_21 ?_
        refine lv_iload_n hx hb dX4_hasTwoEnds_24 rfl (lv_at hl 3 rfl) ?_
        obtain ⟨h_25, hm⟩ := hm
        refine z_iald hx hb hK hP zI_12 h_25 dX4_hasTwoEnds_25 ?_
        refine lv_aload_n hx hb dX4_hasTwoEnds_26 rfl (lv_at hl 0 rfl) ?_
        refine zg_4_signs hx hb hts i4 hown hK hP (hts _ (List.mem_of_getElem? (i := 4) rfl)) dX4_hasTwoEnds_27 ?_
        refine lv_iload_n hx hb dX4_hasTwoEnds_30 rfl (lv_at hl 3 rfl) ?_
        obtain ⟨h_31, hm⟩ := hm
        refine z_iald hx hb hK hP zI_23 h_31 dX4_hasTwoEnds_31 ?_
        refine lv_imul hx hb dX4_hasTwoEnds_32 ?_
        refine lv_topi (fun x4_33 ex4_33 => ?_)
        have hm := hm x4_33 ex4_33
        refine lv_istore (lv' := [(4, .int x4_33), (0, .ref (a 2)), (1, .int x1), (2, .int x2), (3, .int x3)]) hx hb dX4_hasTwoEnds_33 hl (by decide) rfl (fun ls hl => ?_)
        refine lv_iload hx hb dX4_hasTwoEnds_35 (lv_at hl 0 rfl) ?_
        refine lv_iconst (v := (1 : Int32)) hx hb dX4_hasTwoEnds_37 (by decide) ?_
        refine lv_icmp_ne (tgt := 51) hx hb dX4_hasTwoEnds_38 (by decide) (fun c_38 => ?_) (fun c_38 => ?_)
        · have hm := hm.2 c_38
          exact b51 x1 x2 x3 x4_33 S _ _ _ hm hP hS (lv_sub hl [1, 2, 3, 4, 0] rfl)
        · have hm := hm.1 c_38
          refine lv_iload_n hx hb dX4_hasTwoEnds_41 rfl (lv_at hl 3 rfl) ?_
          refine lv_iconst (v := (-1 : Int32)) hx hb dX4_hasTwoEnds_42 (by decide) ?_
          refine lv_icmp_ne (tgt := 51) hx hb dX4_hasTwoEnds_43 (by decide) (fun c_43 => ?_) (fun c_43 => ?_)
          · have hm := hm.2 c_43
            exact b51 x1 x2 x3 x4_33 S _ _ _ hm hP hS (lv_sub hl [1, 2, 3, 4, 0] rfl)
          · have hm := hm.1 c_43
            refine lv_iload_n hx hb dX4_hasTwoEnds_46 rfl (lv_at hl 4 rfl) ?_
            refine lv_istore_n (lv' := [(2, .int x3), (4, .int x4_33), (0, .ref (a 2)), (1, .int x1), (3, .int x3)]) hx hb dX4_hasTwoEnds_47 rfl hl (by decide) rfl (fun ls hl => ?_)
            refine lv_goto (tgt := 74) hx hb dX4_hasTwoEnds_48 (by decide) ?_
            exact b74 x1 x3 x3 S _ _ _ hm hP hS (lv_sub hl [2, 3, 0, 4] rfl)
  unfold X4_hasTwoEnds at hm
  refine lv_iconst (v := (-1 : Int32)) hx hb dX4_hasTwoEnds_0 (by decide) ?_
  refine lv_istore_n (lv' := [(1, .int (-1 : Int32)), (0, .ref (a 2))]) hx hb dX4_hasTwoEnds_1 rfl hl (by decide) rfl (fun ls hl => ?_)
  refine lv_iconst (v := (-1 : Int32)) hx hb dX4_hasTwoEnds_2 (by decide) ?_
  refine lv_istore_n (lv' := [(2, .int (-1 : Int32)), (1, .int (-1 : Int32)), (0, .ref (a 2))]) hx hb dX4_hasTwoEnds_3 rfl hl (by decide) rfl (fun ls hl => ?_)
  refine lv_iconst (v := (0 : Int32)) hx hb dX4_hasTwoEnds_4 (by decide) ?_
  refine lv_istore_n (lv' := [(3, .int (0 : Int32)), (2, .int (-1 : Int32)), (1, .int (-1 : Int32)), (0, .ref (a 2))]) hx hb dX4_hasTwoEnds_5 rfl hl (by decide) rfl (fun ls hl => ?_)
  obtain ⟨n6, hm⟩ := hm
  exact L6 n6 (-1 : Int32) (-1 : Int32) (0 : Int32) S _ _ _ hm hP hS (lv_sub hl [3, 2, 1, 0] rfl)

abbrev rm_X4_isWay : Room := { frames := 4, cells := 0, slots := 0, locals := 92 }
def X4_isWay_b73 (S : ZS) (Q : Int32 → ZS → Prop) : Prop :=
  X4_hasTwoEnds S (fun r_74 S_74 => zbit r_74 ∧ Q r_74 S_74)
def X4_isWay_b65 (S : ZS) (Q : Int32 → ZS → Prop) : Prop :=
  zbit (0 : Int32) ∧ Q (0 : Int32) S
def X4_isWay_B41 (x1 : Int32) (S : ZS) (Q : Int32 → ZS → Prop) (k41 : Int32 × ZS → Prop) : Prop :=
  ((S.1 1 1) ≤ x1 → X4_isWay_b73 S Q) ∧ (¬ (S.1 1 1) ≤ x1 → vp_in x1 8 ∧ ((S.1 11 (x1).toNatClampNeg) = (1 : Int32) → ∀ x1_67 : Int32, x1_67 = x1 + (1 : Int32) → k41 (x1_67, S)) ∧ (¬ (S.1 11 (x1).toNatClampNeg) = (1 : Int32) → X4_isWay_b65 S Q))
def X4_isWay_L41 (Q : Int32 → ZS → Prop) : (Int32 × ZS) → ((Int32 × ZS) → Prop) → Prop := fun st k41 => X4_isWay_B41 st.1 st.2 Q k41
def X4_isWay_b39 (S : ZS) (Q : Int32 → ZS → Prop) : Prop :=
  zl (X4_isWay_L41 Q) ((0 : Int32), S)
def X4_isWay_b31 (S : ZS) (Q : Int32 → ZS → Prop) : Prop :=
  zbit (0 : Int32) ∧ Q (0 : Int32) S
def X4_isWay_B12 (x1 : Int32) (S : ZS) (Q : Int32 → ZS → Prop) (k12 : Int32 × ZS → Prop) : Prop :=
  ((S.1 1 0) ≤ x1 → X4_isWay_b39 S Q) ∧ (¬ (S.1 1 0) ≤ x1 → X4_canBeWalked x1 S (fun r_25 S_25 => (r_25 = 0 → X4_isWay_b31 S_25 Q) ∧ (¬ r_25 = 0 → ∀ x1_33 : Int32, x1_33 = x1 + (1 : Int32) → k12 (x1_33, S_25))))
def X4_isWay_L12 (Q : Int32 → ZS → Prop) : (Int32 × ZS) → ((Int32 × ZS) → Prop) → Prop := fun st k12 => X4_isWay_B12 st.1 st.2 Q k12
def X4_isWay (S : ZS) (Q : Int32 → ZS → Prop) : Prop :=
  X4_findSigns S (fun r_1 S_1 => (r_1 = (-1 : Int32) → zl (X4_isWay_L12 Q) ((0 : Int32), S_1)) ∧ (¬ r_1 = (-1 : Int32) → zbit (0 : Int32) ∧ Q (0 : Int32) S_1))
set_option maxHeartbeats 4000000 in
set_option maxRecDepth 100000 in
theorem c_X4_isWay (l : Launch) (D : va_G) (k : Nat → ClassId) (a : Nat → Nat) (hj : zDj a) (S : ZS) (Q : Int32 → ZS → Prop) (hm : X4_isWay S Q) (sz : Nat) : Met l yX4_isWay wsX4_isWay rm_X4_isWay (zPc D k a [.ref (a 2)] S sz) (va_Qi Q (zB D k a) (zA a sz)) 0 0 (zA a sz) := by
  refine Met.ofW (cc := cX4_isWay) (maxL := 2) (ret := (some .boolean)) (by decide) rfl ?_
  intro p e s m args below meth c s₁ B hml hv
  obtain ⟨rfl, hsz, hP, hK⟩ := hv
  have hx := B.exec
  have hb := B.bytes
  have hr := B.returns
  have hts := atoms_spec (ws := wsX4_isWay) B.pre
  have hown : s.vm.findClass RX4 = some m.cls := findClass_of_methodNamed B.named
  have hlocks := B.notSynchronized
  subst hsz
  have hS : va_S (zA a s.heap.size) s.heap s.heap [] := va_S.rf
  have hF : CallFix p m c cX4_isWay 2 s _ wsX4_isWay RX4 := ⟨hx, hb, hml, hown, hts⟩
  have i4 : ∀ w ∈ wsX40, w ∈ wsX4_isWay := fun _ h => (List.mem_cons_of_mem _ (List.mem_append_left _ (List.mem_append_right _ h)))
  have i5 : ∀ w ∈ wsX50, w ∈ wsX4_isWay := fun _ h => (List.mem_cons_of_mem _ (List.mem_append_right _ h))
  have hl := lv_entry ([.ref (a 2)]) (n := 2) (Nat.le_of_ble_eq_true rfl)
  rw [lg_entry_eq]
  generalize (lg_sl ([.ref (a 2)]) ++ List.replicate (2 - (lg_sl ([.ref (a 2)])).length) Slot.unset).toArray = ls at hl ⊢
  have hl : lv_has ls 2 [(0, .ref (a 2))] := hl
  have b39 : ∀ (S : ZS) (H : Heap) (locs : List Loc) (ls : Array Slot), X4_isWay_b39 S Q → va_P D vwCl (zWS k a S) H → va_S (zA a s.heap.size) s.heap H locs → lv_has ls 2 [(0, .ref (a 2))] → zWi p l e (headSpec wsX4_isWay rm_X4_isWay).room s m ([.ref (a 2)] : List Value) below meth c D k a Q H locs (F0 m 39 ls []) := by
    intro S H locs ls hm hP hS hl
    unfold X4_isWay_b39 at hm
    have b73 : ∀ (S : ZS) (H : Heap) (locs : List Loc) (ls : Array Slot), X4_isWay_b73 S Q → va_P D vwCl (zWS k a S) H → va_S (zA a s.heap.size) s.heap H locs → lv_has ls 2 [(0, .ref (a 2))] → zWi p l e (headSpec wsX4_isWay rm_X4_isWay).room s m ([.ref (a 2)] : List Value) below meth c D k a Q H locs (F0 m 73 ls []) := by
      intro S H locs ls hm hP hS hl
      unfold X4_isWay_b73 at hm
      refine lv_aload_n hx hb dX4_isWay_73 rfl (lv_at hl 0 rfl) ?_
      refine z_cVi (As := []) (rest := []) hF hK hP hS zO_2 rfl rfl (c_X4_hasTwoEnds l D k a hj  S _ hm _) (cwV 0 hts gX4_isWay_X4_hasTwoEnds rfl rfl rfl (by decide +kernel) ⟨Nat.le_of_ble_eq_true rfl, Nat.le_of_ble_eq_true rfl⟩) rfl hl.1 rfl (Nat.le_of_ble_eq_true rfl) dX4_isWay_74 ⟨Nat.zero_le _, Nat.zero_le _⟩ (fun r_74 S_74 H locs hm hP hS => ?_)
      exact z_retz hx hb hr hlocks hP hS hm dX4_isWay_77
    have b65 : ∀ (S : ZS) (H : Heap) (locs : List Loc) (ls : Array Slot), X4_isWay_b65 S Q → va_P D vwCl (zWS k a S) H → va_S (zA a s.heap.size) s.heap H locs → lv_has ls 2 [(0, .ref (a 2))] → zWi p l e (headSpec wsX4_isWay rm_X4_isWay).room s m ([.ref (a 2)] : List Value) below meth c D k a Q H locs (F0 m 65 ls []) := by
      intro S H locs ls hm hP hS hl
      unfold X4_isWay_b65 at hm
      refine lv_iconst (v := (0 : Int32)) hx hb dX4_isWay_65 (by decide) ?_
      exact z_retz hx hb hr hlocks hP hS hm dX4_isWay_66
    have L41 : ∀ (n : Nat) (x1 : Int32) (S : ZS) (H : Heap) (locs : List Loc) (ls : Array Slot), zn (X4_isWay_L41 Q) n (x1, S) → va_P D vwCl (zWS k a S) H → va_S (zA a s.heap.size) s.heap H locs → lv_has ls 2 [(0, .ref (a 2)), (1, .int x1)] → zWi p l e (headSpec wsX4_isWay rm_X4_isWay).room s m ([.ref (a 2)] : List Value) below meth c D k a Q H locs (F0 m 41 ls []) := by
      intro n
      induction n with
      | zero =>
        intro x1 S H locs ls hm
        exact hm.elim
      | succ n ih41 =>
        intro x1 S H locs ls hm hP hS hl
        have hm : X4_isWay_B41 x1 S Q (zn (X4_isWay_L41 Q) n) := hm
        generalize zn (X4_isWay_L41 Q) n = k41 at hm ih41
        unfold X4_isWay_B41 at hm
        refine lv_iload_n hx hb dX4_isWay_41 rfl (lv_at hl 1 rfl) ?_
        refine lv_aload_n hx hb dX4_isWay_42 rfl (lv_at hl 0 rfl) ?_
        refine zg_4_whole hx hb hts i4 hown hK hP (hts _ (List.mem_of_getElem? (i := 1) rfl)) dX4_isWay_43 ?_
        refine zg_5_rows hx hb hts i5 hown hK hP (hts _ (List.mem_of_getElem? (i := 3) rfl)) dX4_isWay_46 ?_
        refine lv_icmp_ge (tgt := 73) hx hb dX4_isWay_49 (by decide) (fun c_49 => ?_) (fun c_49 => ?_)
        · have hm := hm.1 c_49
          exact b73  S _ _ _ hm hP hS (lv_sub hl [0] rfl)
        · have hm := hm.2 c_49
          refine lv_aload_n hx hb dX4_isWay_52 rfl (lv_at hl 0 rfl) ?_
          refine zg_4_whole hx hb hts i4 hown hK hP (hts _ (List.mem_of_getElem? (i := 1) rfl)) dX4_isWay_53 ?_
          refine zg_5_kind hx hb hts i5 hown hK hP (hts _ (List.mem_of_getElem? (i := 4) rfl)) dX4_isWay_56 ?_
          refine lv_iload_n hx hb dX4_isWay_59 rfl (lv_at hl 1 rfl) ?_
          obtain ⟨h_60, hm⟩ := hm
          refine z_iald hx hb hK hP zI_11 h_60 dX4_isWay_60 ?_
          refine lv_iconst (v := (1 : Int32)) hx hb dX4_isWay_61 (by decide) ?_
          refine lv_icmp_eq (tgt := 67) hx hb dX4_isWay_62 (by decide) (fun c_62 => ?_) (fun c_62 => ?_)
          · have hm := hm.1 c_62
            obtain ⟨x1_67, ex1_67⟩ : ∃ y : Int32, y = x1 + (1 : Int32) := ⟨_, rfl⟩
            have hm := hm x1_67 ex1_67
            refine lv_iinc (v := x1_67) (lv' := [(1, .int x1_67), (0, .ref (a 2))]) hx hb dX4_isWay_67 hl (k := 1) rfl (by rw [ex1_67]; rfl) (by decide) rfl (fun ls hl => ?_)
            refine lv_goto (tgt := 41) hx hb dX4_isWay_70 (by decide) ?_
            exact ih41 x1_67 S _ _ _ hm hP hS (lv_sub hl [1, 0] rfl)
          · have hm := hm.2 c_62
            exact b65  S _ _ _ hm hP hS (lv_sub hl [0] rfl)
    refine lv_iconst (v := (0 : Int32)) hx hb dX4_isWay_39 (by decide) ?_
    refine lv_istore_n (lv' := [(1, .int (0 : Int32)), (0, .ref (a 2))]) hx hb dX4_isWay_40 rfl hl (by decide) rfl (fun ls hl => ?_)
    obtain ⟨n41, hm⟩ := hm
    exact L41 n41 (0 : Int32) S _ _ _ hm hP hS (lv_sub hl [1, 0] rfl)
  have b31 : ∀ (S : ZS) (H : Heap) (locs : List Loc) (ls : Array Slot), X4_isWay_b31 S Q → va_P D vwCl (zWS k a S) H → va_S (zA a s.heap.size) s.heap H locs → lv_has ls 2 [(0, .ref (a 2))] → zWi p l e (headSpec wsX4_isWay rm_X4_isWay).room s m ([.ref (a 2)] : List Value) below meth c D k a Q H locs (F0 m 31 ls []) := by
    intro S H locs ls hm hP hS hl
    unfold X4_isWay_b31 at hm
    refine lv_iconst (v := (0 : Int32)) hx hb dX4_isWay_31 (by decide) ?_
    exact z_retz hx hb hr hlocks hP hS hm dX4_isWay_32
  have L12 : ∀ (n : Nat) (x1 : Int32) (S : ZS) (H : Heap) (locs : List Loc) (ls : Array Slot), zn (X4_isWay_L12 Q) n (x1, S) → va_P D vwCl (zWS k a S) H → va_S (zA a s.heap.size) s.heap H locs → lv_has ls 2 [(0, .ref (a 2)), (1, .int x1)] → zWi p l e (headSpec wsX4_isWay rm_X4_isWay).room s m ([.ref (a 2)] : List Value) below meth c D k a Q H locs (F0 m 12 ls []) := by
    intro n
    induction n with
    | zero =>
      intro x1 S H locs ls hm
      exact hm.elim
    | succ n ih12 =>
      intro x1 S H locs ls hm hP hS hl
      have hm : X4_isWay_B12 x1 S Q (zn (X4_isWay_L12 Q) n) := hm
      generalize zn (X4_isWay_L12 Q) n = k12 at hm ih12
      unfold X4_isWay_B12 at hm
      refine lv_iload_n hx hb dX4_isWay_12 rfl (lv_at hl 1 rfl) ?_
      refine lv_aload_n hx hb dX4_isWay_13 rfl (lv_at hl 0 rfl) ?_
      refine zg_4_whole hx hb hts i4 hown hK hP (hts _ (List.mem_of_getElem? (i := 1) rfl)) dX4_isWay_14 ?_
      refine zg_5_columns hx hb hts i5 hown hK hP (hts _ (List.mem_of_getElem? (i := 2) rfl)) dX4_isWay_17 ?_
      refine lv_icmp_ge (tgt := 39) hx hb dX4_isWay_20 (by decide) (fun c_20 => ?_) (fun c_20 => ?_)
      · have hm := hm.1 c_20
        exact b39  S _ _ _ hm hP hS (lv_sub hl [0] rfl)
      · have hm := hm.2 c_20
        refine lv_aload_n hx hb dX4_isWay_23 rfl (lv_at hl 0 rfl) ?_
        refine lv_iload_n hx hb dX4_isWay_24 rfl (lv_at hl 1 rfl) ?_
        refine z_cVi (As := [.int x1]) (rest := []) hF hK hP hS zO_2 rfl rfl (c_X4_canBeWalked l D k a hj x1 S _ hm _) (cwV 1 hts gX4_isWay_X4_canBeWalked rfl rfl rfl (by decide +kernel) ⟨Nat.le_of_ble_eq_true rfl, Nat.le_of_ble_eq_true rfl⟩) rfl hl.1 rfl (Nat.le_of_ble_eq_true rfl) dX4_isWay_25 ⟨Nat.zero_le _, Nat.zero_le _⟩ (fun r_25 S_25 H locs hm hP hS => ?_)
        refine lv_if_ne (tgt := 33) hx hb dX4_isWay_28 (by decide) (fun c_28 => ?_) (fun c_28 => ?_)
        · have hm := hm.2 c_28
          obtain ⟨x1_33, ex1_33⟩ : ∃ y : Int32, y = x1 + (1 : Int32) := ⟨_, rfl⟩
          have hm := hm x1_33 ex1_33
          refine lv_iinc (v := x1_33) (lv' := [(1, .int x1_33), (0, .ref (a 2))]) hx hb dX4_isWay_33 hl (k := 1) rfl (by rw [ex1_33]; rfl) (by decide) rfl (fun ls hl => ?_)
          refine lv_goto (tgt := 12) hx hb dX4_isWay_36 (by decide) ?_
          exact ih12 x1_33 S_25 _ _ _ hm hP hS (lv_sub hl [1, 0] rfl)
        · have hm := hm.1 c_28
          exact b31  S_25 _ _ _ hm hP hS (lv_sub hl [0] rfl)
  unfold X4_isWay at hm
  refine lv_aload_n hx hb dX4_isWay_0 rfl (lv_at hl 0 rfl) ?_
  refine z_cVi (As := []) (rest := []) hF hK hP hS zO_2 rfl rfl (c_X4_findSigns l D k a hj  S _ hm _) (cwV 0 hts gX4_isWay_X4_findSigns rfl rfl rfl (by decide +kernel) ⟨Nat.le_of_ble_eq_true rfl, Nat.le_of_ble_eq_true rfl⟩) rfl hl.1 rfl (Nat.le_of_ble_eq_true rfl) dX4_isWay_1 ⟨Nat.zero_le _, Nat.zero_le _⟩ (fun r_1 S_1 H locs hm hP hS => ?_)
  refine lv_iconst (v := (-1 : Int32)) hx hb dX4_isWay_4 (by decide) ?_
  refine lv_icmp_eq (tgt := 10) hx hb dX4_isWay_5 (by decide) (fun c_5 => ?_) (fun c_5 => ?_)
  · have hm := hm.1 c_5
    refine lv_iconst (v := (0 : Int32)) hx hb dX4_isWay_10 (by decide) ?_
    refine lv_istore_n (lv' := [(1, .int (0 : Int32)), (0, .ref (a 2))]) hx hb dX4_isWay_11 rfl hl (by decide) rfl (fun ls hl => ?_)
    obtain ⟨n12, hm⟩ := hm
    exact L12 n12 (0 : Int32) S_1 _ _ _ hm hP hS (lv_sub hl [1, 0] rfl)
  · have hm := hm.2 c_5
    refine lv_iconst (v := (0 : Int32)) hx hb dX4_isWay_8 (by decide) ?_
    exact z_retz hx hb hr hlocks hP hS hm dX4_isWay_9

