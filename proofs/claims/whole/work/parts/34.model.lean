abbrev rm_X7_sumOf : Room := { frames := 1, cells := 0, slots := 0, locals := 22 }
def X7_sumOf_b40 (x2 : Int64) (S : ZS) (Q : Int64 → ZS → Prop) : Prop :=
  Q x2 S
def X7_sumOf_B5 (x1 : Int32) (x2 : Int64) (x4 : Int32) (S : ZS) (Q : Int64 → ZS → Prop) (k5 : Int64 × Int32 × ZS → Prop) : Prop :=
  ((S.1 61 1) ≤ x4 → X7_sumOf_b40 x2 S Q) ∧ (¬ (S.1 61 1) ≤ x4 → X7_coef x1 x4 S (fun r_19 S_19 => vp_in x4 10 ∧ ∀ x2_33 : Int64, x2_33 = (x2 + ((Int32.toInt64 r_19) * (Int32.toInt64 (S_19.1 68 (x4).toNatClampNeg)))) → ∀ x4_34 : Int32, x4_34 = x4 + (1 : Int32) → k5 (x2_33, x4_34, S_19)))
def X7_sumOf_L5 (x1 : Int32) (Q : Int64 → ZS → Prop) : (Int64 × Int32 × ZS) → ((Int64 × Int32 × ZS) → Prop) → Prop := fun st k5 => X7_sumOf_B5 x1 st.1 st.2.1 st.2.2 Q k5
def X7_sumOf (y1 : Int32) (S : ZS) (Q : Int64 → ZS → Prop) : Prop :=
  zl (X7_sumOf_L5 y1 Q) ((0 : Int64), (0 : Int32), S)
set_option maxHeartbeats 4000000 in
set_option maxRecDepth 100000 in
theorem c_X7_sumOf (l : Launch) (D : va_G) (k : Nat → ClassId) (a : Nat → Nat) (hj : zDj a) (y1 : Int32) (S : ZS) (Q : Int64 → ZS → Prop) (hm : X7_sumOf y1 S Q) (sz : Nat) : Met l yX7_sumOf wsX7_sumOf rm_X7_sumOf (zPc D k a [.ref (a 61), .int y1] S sz) (va_Ql Q (zB D k a) (zA a sz)) 0 0 (zA a sz) := by
  refine Met.ofW (cc := cX7_sumOf) (maxL := 5) (ret := (some .long)) (by decide) rfl ?_
  intro p e s m args below meth c s₁ B hml hv
  obtain ⟨rfl, hsz, hP, hK⟩ := hv
  have hx := B.exec
  have hb := B.bytes
  have hr := B.returns
  have hts := atoms_spec (ws := wsX7_sumOf) B.pre
  have hown : s.vm.findClass RX7 = some m.cls := findClass_of_methodNamed B.named
  have hlocks := B.notSynchronized
  subst hsz
  have hS : va_S (zA a s.heap.size) s.heap s.heap [] := va_S.rf
  have hF : CallFix p m c cX7_sumOf 5 s _ wsX7_sumOf RX7 := ⟨hx, hb, hml, hown, hts⟩
  have i7 : ∀ w ∈ wsX70, w ∈ wsX7_sumOf := fun _ h => (List.mem_cons_of_mem _ (List.mem_append_right _ h))
  have hl := lv_entry ([.ref (a 61), .int y1]) (n := 5) (Nat.le_of_ble_eq_true rfl)
  rw [lg_entry_eq]
  generalize (lg_sl ([.ref (a 61), .int y1]) ++ List.replicate (5 - (lg_sl ([.ref (a 61), .int y1])).length) Slot.unset).toArray = ls at hl ⊢
  have hl : lv_has ls 5 [(0, .ref (a 61)), (1, .int y1)] := hl
  have b40 : ∀ (x2 : Int64) (S : ZS) (H : Heap) (locs : List Loc) (ls : Array Slot), X7_sumOf_b40 x2 S Q → va_P D vwCl (zWS k a S) H → va_S (zA a s.heap.size) s.heap H locs → lv_has ls 5 [(0, .ref (a 61)), (2, .long x2)] → zWl p l e (headSpec wsX7_sumOf rm_X7_sumOf).room s m ([.ref (a 61), .int y1] : List Value) below meth c D k a Q H locs (F0 m 40 ls []) := by
    intro x2 S H locs ls hm hP hS hl
    unfold X7_sumOf_b40 at hm
    refine lv_lload_n hx hb dX7_sumOf_40 rfl (lv_at hl 1 rfl) ?_
    exact z_retl hx hb hr hlocks hP hS hm dX7_sumOf_41
  have L5 : ∀ (x1 : Int32) (n : Nat) (x2 : Int64) (x4 : Int32) (S : ZS) (H : Heap) (locs : List Loc) (ls : Array Slot), zn (X7_sumOf_L5 x1 Q) n (x2, x4, S) → va_P D vwCl (zWS k a S) H → va_S (zA a s.heap.size) s.heap H locs → lv_has ls 5 [(0, .ref (a 61)), (1, .int x1), (2, .long x2), (4, .int x4)] → zWl p l e (headSpec wsX7_sumOf rm_X7_sumOf).room s m ([.ref (a 61), .int y1] : List Value) below meth c D k a Q H locs (F0 m 5 ls []) := by
    intro x1 n
    induction n with
    | zero =>
      intro x2 x4 S H locs ls hm
      exact hm.elim
    | succ n ih5 =>
      intro x2 x4 S H locs ls hm hP hS hl
      have hm : X7_sumOf_B5 x1 x2 x4 S Q (zn (X7_sumOf_L5 x1 Q) n) := hm
      generalize zn (X7_sumOf_L5 x1 Q) n = k5 at hm ih5
      unfold X7_sumOf_B5 at hm
      refine lv_iload hx hb dX7_sumOf_5 (lv_at hl 3 rfl) ?_
      refine lv_aload_n hx hb dX7_sumOf_7 rfl (lv_at hl 0 rfl) ?_
      refine zg_7_columns hx hb hts i7 hown hK hP (hts _ (List.mem_of_getElem? (i := 1) rfl)) dX7_sumOf_8 ?_
      refine lv_icmp_ge (tgt := 40) hx hb dX7_sumOf_11 (by decide) (fun c_11 => ?_) (fun c_11 => ?_)
      · have hm := hm.1 c_11
        exact b40 x2 S _ _ _ hm hP hS (lv_sub hl [0, 2] rfl)
      · have hm := hm.2 c_11
        refine lv_lload_n hx hb dX7_sumOf_14 rfl (lv_at hl 2 rfl) ?_
        refine lv_aload_n hx hb dX7_sumOf_15 rfl (lv_at hl 0 rfl) ?_
        refine lv_iload_n hx hb dX7_sumOf_16 rfl (lv_at hl 1 rfl) ?_
        refine lv_iload hx hb dX7_sumOf_17 (lv_at hl 3 rfl) ?_
        refine z_cVi (As := [.int x1, .int x4]) (rest := [.long x2]) hF hK hP hS zO_61 rfl rfl (c_X7_coef l D k a hj x1 x4 S _ hm _) (cwV 2 hts gX7_sumOf_X7_coef rfl rfl rfl (by decide +kernel) ⟨Nat.le_of_ble_eq_true rfl, Nat.le_of_ble_eq_true rfl⟩) rfl hl.1 rfl (Nat.le_of_ble_eq_true rfl) dX7_sumOf_19 ⟨Nat.zero_le _, Nat.zero_le _⟩ (fun r_19 S_19 H locs hm hP hS => ?_)
        refine lv_i2l hx hb dX7_sumOf_22 rfl ?_
        refine lv_aload_n hx hb dX7_sumOf_23 rfl (lv_at hl 0 rfl) ?_
        refine zg_7_best hx hb hts i7 hown hK hP (hts _ (List.mem_of_getElem? (i := 2) rfl)) dX7_sumOf_24 ?_
        refine lv_iload hx hb dX7_sumOf_27 (lv_at hl 3 rfl) ?_
        obtain ⟨h_29, hm⟩ := hm
        refine z_iald hx hb hK hP zI_68 h_29 dX7_sumOf_29 ?_
        refine lv_i2l hx hb dX7_sumOf_30 rfl ?_
        refine lv_lmul hx hb dX7_sumOf_31 ?_
        refine lv_ladd hx hb dX7_sumOf_32 ?_
        refine lv_topl (fun x2_33 ex2_33 => ?_)
        have hm := hm x2_33 ex2_33
        refine lv_lstore_n (lv' := [(2, .long x2_33), (0, .ref (a 61)), (1, .int x1), (4, .int x4)]) hx hb dX7_sumOf_33 rfl hl (by decide) rfl (fun ls hl => ?_)
        obtain ⟨x4_34, ex4_34⟩ : ∃ y : Int32, y = x4 + (1 : Int32) := ⟨_, rfl⟩
        have hm := hm x4_34 ex4_34
        refine lv_iinc (v := x4_34) (lv' := [(4, .int x4_34), (2, .long x2_33), (0, .ref (a 61)), (1, .int x1)]) hx hb dX7_sumOf_34 hl (k := 3) rfl (by rw [ex4_34]; rfl) (by decide) rfl (fun ls hl => ?_)
        refine lv_goto (tgt := 5) hx hb dX7_sumOf_37 (by decide) ?_
        exact ih5 x2_33 x4_34 S_19 _ _ _ hm hP hS (lv_sub hl [2, 3, 1, 0] rfl)
  unfold X7_sumOf at hm
  refine lv_lconst (v := (0 : Int64)) hx hb dX7_sumOf_0 (by decide) ?_
  refine lv_lstore_n (lv' := [(2, .long (0 : Int64)), (0, .ref (a 61)), (1, .int y1)]) hx hb dX7_sumOf_1 rfl hl (by decide) rfl (fun ls hl => ?_)
  refine lv_iconst (v := (0 : Int32)) hx hb dX7_sumOf_2 (by decide) ?_
  refine lv_istore (lv' := [(4, .int (0 : Int32)), (2, .long (0 : Int64)), (0, .ref (a 61)), (1, .int y1)]) hx hb dX7_sumOf_3 hl (by decide) rfl (fun ls hl => ?_)
  obtain ⟨n5, hm⟩ := hm
  exact L5 y1 n5 (0 : Int64) (0 : Int32) S _ _ _ hm hP hS (lv_sub hl [2, 3, 1, 0] rfl)

abbrev rm_X7_findEdges : Room := { frames := 2, cells := 0, slots := 0, locals := 46 }
def X7_findEdges_b200 (S : ZS) (Q : ZS → Prop) : Prop :=
  Q S
def X7_findEdges_b194 (x1 : Int32) (S : ZS) (Q : ZS → Prop) (k101 : Int32 × ZS → Prop) : Prop :=
  ∀ x1_194 : Int32, x1_194 = x1 + (1 : Int32) → k101 (x1_194, S)
def X7_findEdges_b155 (x1 : Int32) (x2 : Int32) (t0 : Int32) (S : ZS) (Q : ZS → Prop) (k101 : Int32 × ZS → Prop) : Prop :=
  X7_edge t0 x2 (0 : Int64) ((100 : Int32) + x1) S (fun S_164 => X7_sumOf x1 S_164 (fun r_169 S_169 => vp_in x1 8 ∧ (0 ≤ (lg_cmp r_169 (Int32.toInt64 (S_169.1 66 (x1).toNatClampNeg))) → X7_findEdges_b194 x1 S_169 Q k101) ∧ (¬ 0 ≤ (lg_cmp r_169 (Int32.toInt64 (S_169.1 66 (x1).toNatClampNeg))) → X7_edge x2 t0 (0 : Int64) ((-100 : Int32) - x1) S_169 (fun S_191 => X7_findEdges_b194 x1 S_191 Q k101))))
def X7_findEdges_b136 (x1 : Int32) (t0 : Int32) (S : ZS) (Q : ZS → Prop) (k101 : Int32 × ZS → Prop) : Prop :=
  vp_in x1 8 ∧ ((S.1 71 (x1).toNatClampNeg) = (1 : Int32) → X7_findEdges_b155 x1 t0 (S.1 61 2) S Q k101) ∧ (¬ (S.1 71 (x1).toNatClampNeg) = (1 : Int32) → X7_findEdges_b155 x1 t0 x1 S Q k101)
def X7_findEdges_B101 (x1 : Int32) (S : ZS) (Q : ZS → Prop) (k101 : Int32 × ZS → Prop) : Prop :=
  ((S.1 61 2) ≤ x1 → X7_findEdges_b200 S Q) ∧ (¬ (S.1 61 2) ≤ x1 → vp_in x1 8 ∧ ((S.1 65 (x1).toNatClampNeg) = 0 → vp_in x1 8 ∧ ((S.1 71 (x1).toNatClampNeg) = (1 : Int32) → X7_findEdges_b136 x1 x1 S Q k101) ∧ (¬ (S.1 71 (x1).toNatClampNeg) = (1 : Int32) → X7_findEdges_b136 x1 (S.1 61 2) S Q k101)) ∧ (¬ (S.1 65 (x1).toNatClampNeg) = 0 → X7_findEdges_b194 x1 S Q k101))
def X7_findEdges_L101 (Q : ZS → Prop) : (Int32 × ZS) → ((Int32 × ZS) → Prop) → Prop := fun st k101 => X7_findEdges_B101 st.1 st.2 Q k101
def X7_findEdges_b99 (S : ZS) (Q : ZS → Prop) : Prop :=
  zl (X7_findEdges_L101 Q) ((0 : Int32), S)
def X7_findEdges_b93 (x1 : Int32) (S : ZS) (Q : ZS → Prop) (k7 : Int32 × ZS → Prop) : Prop :=
  ∀ x1_93 : Int32, x1_93 = x1 + (1 : Int32) → k7 (x1_93, S)
def X7_findEdges_b60 (x1 : Int32) (x2 : Int32) (x3 : Int32) (S : ZS) (Q : ZS → Prop) (k7 : Int32 × ZS → Prop) : Prop :=
  vp_in x1 10 ∧ vp_in x1 10 ∧ ((S.1 68 (x1).toNatClampNeg) ≤ (S.1 62 (x1).toNatClampNeg) → X7_findEdges_b93 x1 S Q k7) ∧ (¬ (S.1 68 (x1).toNatClampNeg) ≤ (S.1 62 (x1).toNatClampNeg) → vp_in x1 10 ∧ X7_edge x2 x3 (Int32.toInt64 (-(S.1 64 (x1).toNatClampNeg))) ((-x1) - (1 : Int32)) S (fun S_90 => X7_findEdges_b93 x1 S_90 Q k7))
def X7_findEdges_B7 (x1 : Int32) (S : ZS) (Q : ZS → Prop) (k7 : Int32 × ZS → Prop) : Prop :=
  ((S.1 61 1) ≤ x1 → X7_findEdges_b99 S Q) ∧ (¬ (S.1 61 1) ≤ x1 → X7_endOf x1 (1 : Int32) S (fun r_18 S_18 => X7_endOf x1 (-1 : Int32) S_18 (fun r_25 S_25 => vp_in x1 10 ∧ vp_in x1 10 ∧ ((S_25.1 63 (x1).toNatClampNeg) ≤ (S_25.1 68 (x1).toNatClampNeg) → X7_findEdges_b60 x1 r_18 r_25 S_25 Q k7) ∧ (¬ (S_25.1 63 (x1).toNatClampNeg) ≤ (S_25.1 68 (x1).toNatClampNeg) → vp_in x1 10 ∧ X7_edge r_25 r_18 (Int32.toInt64 (S_25.1 64 (x1).toNatClampNeg)) (x1 + (1 : Int32)) S_25 (fun S_57 => X7_findEdges_b60 x1 r_18 r_25 S_57 Q k7)))))
def X7_findEdges_L7 (Q : ZS → Prop) : (Int32 × ZS) → ((Int32 × ZS) → Prop) → Prop := fun st k7 => X7_findEdges_B7 st.1 st.2 Q k7
def X7_findEdges (S : ZS) (Q : ZS → Prop) : Prop :=
  ∀ S_2 : ZS, S_2 = zu S 61 20 (0 : Int32) → zl (X7_findEdges_L7 Q) ((0 : Int32), S_2)
set_option maxHeartbeats 4000000 in
set_option maxRecDepth 100000 in
theorem c_X7_findEdges (l : Launch) (D : va_G) (k : Nat → ClassId) (a : Nat → Nat) (hj : zDj a) (S : ZS) (Q : ZS → Prop) (hm : X7_findEdges S Q) (sz : Nat) : Met l yX7_findEdges wsX7_findEdges rm_X7_findEdges (zPc D k a [.ref (a 61)] S sz) (va_Qv Q (zB D k a) (zA a sz)) 0 0 (zA a sz) := by
  refine Met.ofW (cc := cX7_findEdges) (maxL := 4) (ret := none) (by decide) rfl ?_
  intro p e s m args below meth c s₁ B hml hv
  obtain ⟨rfl, hsz, hP, hK⟩ := hv
  have hx := B.exec
  have hb := B.bytes
  have hr := B.returns
  have hts := atoms_spec (ws := wsX7_findEdges) B.pre
  have hown : s.vm.findClass RX7 = some m.cls := findClass_of_methodNamed B.named
  have hlocks := B.notSynchronized
  subst hsz
  have hS : va_S (zA a s.heap.size) s.heap s.heap [] := va_S.rf
  have hF : CallFix p m c cX7_findEdges 4 s _ wsX7_findEdges RX7 := ⟨hx, hb, hml, hown, hts⟩
  have i7 : ∀ w ∈ wsX70, w ∈ wsX7_findEdges := fun _ h => (List.mem_cons_of_mem _ (List.mem_append_right _ h))
  have hl := lv_entry ([.ref (a 61)]) (n := 4) (Nat.le_of_ble_eq_true rfl)
  rw [lg_entry_eq]
  generalize (lg_sl ([.ref (a 61)]) ++ List.replicate (4 - (lg_sl ([.ref (a 61)])).length) Slot.unset).toArray = ls at hl ⊢
  have hl : lv_has ls 4 [(0, .ref (a 61))] := hl
  have b99 : ∀ (S : ZS) (H : Heap) (locs : List Loc) (ls : Array Slot), X7_findEdges_b99 S Q → va_P D vwCl (zWS k a S) H → va_S (zA a s.heap.size) s.heap H locs → lv_has ls 4 [(0, .ref (a 61))] → zWv p l e (headSpec wsX7_findEdges rm_X7_findEdges).room s m ([.ref (a 61)] : List Value) below meth c D k a Q H locs (F0 m 99 ls []) := by
    intro S H locs ls hm hP hS hl
    unfold X7_findEdges_b99 at hm
    have b200 : ∀ (S : ZS) (H : Heap) (locs : List Loc) (ls : Array Slot), X7_findEdges_b200 S Q → va_P D vwCl (zWS k a S) H → va_S (zA a s.heap.size) s.heap H locs → lv_has ls 4 [(0, .ref (a 61))] → zWv p l e (headSpec wsX7_findEdges rm_X7_findEdges).room s m ([.ref (a 61)] : List Value) below meth c D k a Q H locs (F0 m 200 ls []) := by
      intro S H locs ls hm hP hS hl
      unfold X7_findEdges_b200 at hm
      exact z_retv hx hb hr hlocks hP hS hm dX7_findEdges_200
    have L101 : ∀ (n : Nat) (x1 : Int32) (S : ZS) (H : Heap) (locs : List Loc) (ls : Array Slot), zn (X7_findEdges_L101 Q) n (x1, S) → va_P D vwCl (zWS k a S) H → va_S (zA a s.heap.size) s.heap H locs → lv_has ls 4 [(0, .ref (a 61)), (1, .int x1)] → zWv p l e (headSpec wsX7_findEdges rm_X7_findEdges).room s m ([.ref (a 61)] : List Value) below meth c D k a Q H locs (F0 m 101 ls []) := by
      intro n
      induction n with
      | zero =>
        intro x1 S H locs ls hm
        exact hm.elim
      | succ n ih101 =>
        intro x1 S H locs ls hm hP hS hl
        have hm : X7_findEdges_B101 x1 S Q (zn (X7_findEdges_L101 Q) n) := hm
        generalize zn (X7_findEdges_L101 Q) n = k101 at hm ih101
        unfold X7_findEdges_B101 at hm
        have b194 : ∀ (x1 : Int32) (S : ZS) (H : Heap) (locs : List Loc) (ls : Array Slot), X7_findEdges_b194 x1 S Q k101 → va_P D vwCl (zWS k a S) H → va_S (zA a s.heap.size) s.heap H locs → lv_has ls 4 [(0, .ref (a 61)), (1, .int x1)] → zWv p l e (headSpec wsX7_findEdges rm_X7_findEdges).room s m ([.ref (a 61)] : List Value) below meth c D k a Q H locs (F0 m 194 ls []) := by
          intro x1 S H locs ls hm hP hS hl
          unfold X7_findEdges_b194 at hm
          obtain ⟨x1_194, ex1_194⟩ : ∃ y : Int32, y = x1 + (1 : Int32) := ⟨_, rfl⟩
          have hm := hm x1_194 ex1_194
          refine lv_iinc (v := x1_194) (lv' := [(1, .int x1_194), (0, .ref (a 61))]) hx hb dX7_findEdges_194 hl (k := 1) rfl (by rw [ex1_194]; rfl) (by decide) rfl (fun ls hl => ?_)
          refine lv_goto (tgt := 101) hx hb dX7_findEdges_197 (by decide) ?_
          exact ih101 x1_194 S _ _ _ hm hP hS (lv_sub hl [1, 0] rfl)
        have b136 : ∀ (x1 : Int32) (t0 : Int32) (S : ZS) (H : Heap) (locs : List Loc) (ls : Array Slot), X7_findEdges_b136 x1 t0 S Q k101 → va_P D vwCl (zWS k a S) H → va_S (zA a s.heap.size) s.heap H locs → lv_has ls 4 [(0, .ref (a 61)), (1, .int x1)] → zWv p l e (headSpec wsX7_findEdges rm_X7_findEdges).room s m ([.ref (a 61)] : List Value) below meth c D k a Q H locs (F0 m 136 ls [.int t0]) := by
          intro x1 t0 S H locs ls hm hP hS hl
          unfold X7_findEdges_b136 at hm
          have b155 : ∀ (x1 : Int32) (x2 : Int32) (t0 : Int32) (S : ZS) (H : Heap) (locs : List Loc) (ls : Array Slot), X7_findEdges_b155 x1 x2 t0 S Q k101 → va_P D vwCl (zWS k a S) H → va_S (zA a s.heap.size) s.heap H locs → lv_has ls 4 [(0, .ref (a 61)), (1, .int x1), (2, .int x2)] → zWv p l e (headSpec wsX7_findEdges rm_X7_findEdges).room s m ([.ref (a 61)] : List Value) below meth c D k a Q H locs (F0 m 155 ls [.int t0]) := by
            intro x1 x2 t0 S H locs ls hm hP hS hl
            unfold X7_findEdges_b155 at hm
            refine lv_istore_n (lv' := [(3, .int t0), (0, .ref (a 61)), (1, .int x1), (2, .int x2)]) hx hb dX7_findEdges_155 rfl hl (by decide) rfl (fun ls hl => ?_)
            refine lv_aload_n hx hb dX7_findEdges_156 rfl (lv_at hl 1 rfl) ?_
            refine lv_iload_n hx hb dX7_findEdges_157 rfl (lv_at hl 0 rfl) ?_
            refine lv_iload_n hx hb dX7_findEdges_158 rfl (lv_at hl 3 rfl) ?_
            refine lv_lconst (v := (0 : Int64)) hx hb dX7_findEdges_159 (by decide) ?_
            refine lv_bipush (v := (100 : Int32)) hx hb dX7_findEdges_160 (by decide) ?_
            refine lv_iload_n hx hb dX7_findEdges_162 rfl (lv_at hl 2 rfl) ?_
            refine lv_iadd hx hb dX7_findEdges_163 ?_
            refine z_cVv (As := [.int t0, .int x2, .long (0 : Int64), .int ((100 : Int32) + x1)]) (rest := []) hF hK hP hS zO_61 rfl rfl (c_X7_edge l D k a hj t0 x2 (0 : Int64) ((100 : Int32) + x1) S _ hm _) (cwV 4 hts gX7_findEdges_X7_edge rfl rfl rfl (by decide +kernel) ⟨Nat.le_of_ble_eq_true rfl, Nat.le_of_ble_eq_true rfl⟩) rfl hl.1 rfl (Nat.le_of_ble_eq_true rfl) dX7_findEdges_164 ⟨Nat.zero_le _, Nat.zero_le _⟩ (fun S_164 H locs hm hP hS => ?_)
            refine lv_aload_n hx hb dX7_findEdges_167 rfl (lv_at hl 1 rfl) ?_
            refine lv_iload_n hx hb dX7_findEdges_168 rfl (lv_at hl 2 rfl) ?_
            refine z_cVl (As := [.int x1]) (rest := []) hF hK hP hS zO_61 rfl rfl (c_X7_sumOf l D k a hj x1 S_164 _ hm _) (cwV 1 hts gX7_findEdges_X7_sumOf rfl rfl rfl (by decide +kernel) ⟨Nat.le_of_ble_eq_true rfl, Nat.le_of_ble_eq_true rfl⟩) rfl hl.1 rfl (Nat.le_of_ble_eq_true rfl) dX7_findEdges_169 ⟨Nat.zero_le _, Nat.zero_le _⟩ (fun r_169 S_169 H locs hm hP hS => ?_)
            refine lv_aload_n hx hb dX7_findEdges_172 rfl (lv_at hl 1 rfl) ?_
            refine zg_7_rights hx hb hts i7 hown hK hP (hts _ (List.mem_of_getElem? (i := 10) rfl)) dX7_findEdges_173 ?_
            refine lv_iload_n hx hb dX7_findEdges_176 rfl (lv_at hl 2 rfl) ?_
            obtain ⟨h_177, hm⟩ := hm
            refine z_iald hx hb hK hP zI_66 h_177 dX7_findEdges_177 ?_
            refine lv_i2l hx hb dX7_findEdges_178 rfl ?_
            refine W.lcmp hx hb dX7_findEdges_179 ?_
            refine lv_if_ge (tgt := 194) hx hb dX7_findEdges_180 (by decide) (fun c_180 => ?_) (fun c_180 => ?_)
            · have hm := hm.1 c_180
              exact b194 x1 S_169 _ _ _ hm hP hS (lv_sub hl [1, 2] rfl)
            · have hm := hm.2 c_180
              refine lv_aload_n hx hb dX7_findEdges_183 rfl (lv_at hl 1 rfl) ?_
              refine lv_iload_n hx hb dX7_findEdges_184 rfl (lv_at hl 3 rfl) ?_
              refine lv_iload_n hx hb dX7_findEdges_185 rfl (lv_at hl 0 rfl) ?_
              refine lv_lconst (v := (0 : Int64)) hx hb dX7_findEdges_186 (by decide) ?_
              refine lv_bipush (v := (-100 : Int32)) hx hb dX7_findEdges_187 (by decide) ?_
              refine lv_iload_n hx hb dX7_findEdges_189 rfl (lv_at hl 2 rfl) ?_
              refine lv_isub hx hb dX7_findEdges_190 ?_
              refine z_cVv (As := [.int x2, .int t0, .long (0 : Int64), .int ((-100 : Int32) - x1)]) (rest := []) hF hK hP hS zO_61 rfl rfl (c_X7_edge l D k a hj x2 t0 (0 : Int64) ((-100 : Int32) - x1) S_169 _ hm _) (cwV 4 hts gX7_findEdges_X7_edge rfl rfl rfl (by decide +kernel) ⟨Nat.le_of_ble_eq_true rfl, Nat.le_of_ble_eq_true rfl⟩) rfl hl.1 rfl (Nat.le_of_ble_eq_true rfl) dX7_findEdges_191 ⟨Nat.zero_le _, Nat.zero_le _⟩ (fun S_191 H locs hm hP hS => ?_)
              exact b194 x1 S_191 _ _ _ hm hP hS (lv_sub hl [1, 2] rfl)
          refine lv_istore_n (lv' := [(2, .int t0), (0, .ref (a 61)), (1, .int x1)]) hx hb dX7_findEdges_136 rfl hl (by decide) rfl (fun ls hl => ?_)
          refine lv_aload_n hx hb dX7_findEdges_137 rfl (lv_at hl 1 rfl) ?_
          refine zg_7_signs hx hb hts i7 hown hK hP (hts _ (List.mem_of_getElem? (i := 9) rfl)) dX7_findEdges_138 ?_
          refine lv_iload_n hx hb dX7_findEdges_141 rfl (lv_at hl 2 rfl) ?_
          obtain ⟨h_142, hm⟩ := hm
          refine z_iald hx hb hK hP zI_71 h_142 dX7_findEdges_142 ?_
          refine lv_iconst (v := (1 : Int32)) hx hb dX7_findEdges_143 (by decide) ?_
          refine lv_icmp_ne (tgt := 154) hx hb dX7_findEdges_144 (by decide) (fun c_144 => ?_) (fun c_144 => ?_)
          · have hm := hm.2 c_144
            refine lv_iload_n hx hb dX7_findEdges_154 rfl (lv_at hl 2 rfl) ?_
            exact b155 x1 t0 x1 S _ _ _ hm hP hS (lv_sub hl [1, 2, 0] rfl)
          · have hm := hm.1 c_144
            refine lv_aload_n hx hb dX7_findEdges_147 rfl (lv_at hl 1 rfl) ?_
            refine zg_7_rows hx hb hts i7 hown hK hP (hts _ (List.mem_of_getElem? (i := 7) rfl)) dX7_findEdges_148 ?_
            refine lv_goto (tgt := 155) hx hb dX7_findEdges_151 (by decide) ?_
            exact b155 x1 t0 (S.1 61 2) S _ _ _ hm hP hS (lv_sub hl [1, 2, 0] rfl)
        refine lv_iload_n hx hb dX7_findEdges_101 rfl (lv_at hl 1 rfl) ?_
        refine lv_aload_n hx hb dX7_findEdges_102 rfl (lv_at hl 0 rfl) ?_
        refine zg_7_rows hx hb hts i7 hown hK hP (hts _ (List.mem_of_getElem? (i := 7) rfl)) dX7_findEdges_103 ?_
        refine lv_icmp_ge (tgt := 200) hx hb dX7_findEdges_106 (by decide) (fun c_106 => ?_) (fun c_106 => ?_)
        · have hm := hm.1 c_106
          exact b200  S _ _ _ hm hP hS (lv_sub hl [0] rfl)
        · have hm := hm.2 c_106
          refine lv_aload_n hx hb dX7_findEdges_109 rfl (lv_at hl 0 rfl) ?_
          refine zg_7_kinds hx hb hts i7 hown hK hP (hts _ (List.mem_of_getElem? (i := 8) rfl)) dX7_findEdges_110 ?_
          refine lv_iload_n hx hb dX7_findEdges_113 rfl (lv_at hl 1 rfl) ?_
          obtain ⟨h_114, hm⟩ := hm
          refine z_iald hx hb hK hP zI_65 h_114 dX7_findEdges_114 ?_
          refine lv_if_ne (tgt := 194) hx hb dX7_findEdges_115 (by decide) (fun c_115 => ?_) (fun c_115 => ?_)
          · have hm := hm.2 c_115
            exact b194 x1 S _ _ _ hm hP hS (lv_sub hl [0, 1] rfl)
          · have hm := hm.1 c_115
            refine lv_aload_n hx hb dX7_findEdges_118 rfl (lv_at hl 0 rfl) ?_
            refine zg_7_signs hx hb hts i7 hown hK hP (hts _ (List.mem_of_getElem? (i := 9) rfl)) dX7_findEdges_119 ?_
            refine lv_iload_n hx hb dX7_findEdges_122 rfl (lv_at hl 1 rfl) ?_
            obtain ⟨h_123, hm⟩ := hm
            refine z_iald hx hb hK hP zI_71 h_123 dX7_findEdges_123 ?_
            refine lv_iconst (v := (1 : Int32)) hx hb dX7_findEdges_124 (by decide) ?_
            refine lv_icmp_ne (tgt := 132) hx hb dX7_findEdges_125 (by decide) (fun c_125 => ?_) (fun c_125 => ?_)
            · have hm := hm.2 c_125
              refine lv_aload_n hx hb dX7_findEdges_132 rfl (lv_at hl 0 rfl) ?_
              refine zg_7_rows hx hb hts i7 hown hK hP (hts _ (List.mem_of_getElem? (i := 7) rfl)) dX7_findEdges_133 ?_
              exact b136 x1 (S.1 61 2) S _ _ _ hm hP hS (lv_sub hl [0, 1] rfl)
            · have hm := hm.1 c_125
              refine lv_iload_n hx hb dX7_findEdges_128 rfl (lv_at hl 1 rfl) ?_
              refine lv_goto (tgt := 136) hx hb dX7_findEdges_129 (by decide) ?_
              exact b136 x1 x1 S _ _ _ hm hP hS (lv_sub hl [0, 1] rfl)
    refine lv_iconst (v := (0 : Int32)) hx hb dX7_findEdges_99 (by decide) ?_
    refine lv_istore_n (lv' := [(1, .int (0 : Int32)), (0, .ref (a 61))]) hx hb dX7_findEdges_100 rfl hl (by decide) rfl (fun ls hl => ?_)
    obtain ⟨n101, hm⟩ := hm
    exact L101 n101 (0 : Int32) S _ _ _ hm hP hS (lv_sub hl [1, 0] rfl)
  have L7 : ∀ (n : Nat) (x1 : Int32) (S : ZS) (H : Heap) (locs : List Loc) (ls : Array Slot), zn (X7_findEdges_L7 Q) n (x1, S) → va_P D vwCl (zWS k a S) H → va_S (zA a s.heap.size) s.heap H locs → lv_has ls 4 [(0, .ref (a 61)), (1, .int x1)] → zWv p l e (headSpec wsX7_findEdges rm_X7_findEdges).room s m ([.ref (a 61)] : List Value) below meth c D k a Q H locs (F0 m 7 ls []) := by
    intro n
    induction n with
    | zero =>
      intro x1 S H locs ls hm
      exact hm.elim
    | succ n ih7 =>
      intro x1 S H locs ls hm hP hS hl
      have hm : X7_findEdges_B7 x1 S Q (zn (X7_findEdges_L7 Q) n) := hm
      generalize zn (X7_findEdges_L7 Q) n = k7 at hm ih7
      unfold X7_findEdges_B7 at hm
      have b60 : ∀ (x1 : Int32) (x2 : Int32) (x3 : Int32) (S : ZS) (H : Heap) (locs : List Loc) (ls : Array Slot), X7_findEdges_b60 x1 x2 x3 S Q k7 → va_P D vwCl (zWS k a S) H → va_S (zA a s.heap.size) s.heap H locs → lv_has ls 4 [(0, .ref (a 61)), (1, .int x1), (2, .int x2), (3, .int x3)] → zWv p l e (headSpec wsX7_findEdges rm_X7_findEdges).room s m ([.ref (a 61)] : List Value) below meth c D k a Q H locs (F0 m 60 ls []) := by
        intro x1 x2 x3 S H locs ls hm hP hS hl
        unfold X7_findEdges_b60 at hm
        have b93 : ∀ (x1 : Int32) (S : ZS) (H : Heap) (locs : List Loc) (ls : Array Slot), X7_findEdges_b93 x1 S Q k7 → va_P D vwCl (zWS k a S) H → va_S (zA a s.heap.size) s.heap H locs → lv_has ls 4 [(0, .ref (a 61)), (1, .int x1)] → zWv p l e (headSpec wsX7_findEdges rm_X7_findEdges).room s m ([.ref (a 61)] : List Value) below meth c D k a Q H locs (F0 m 93 ls []) := by
          intro x1 S H locs ls hm hP hS hl
          unfold X7_findEdges_b93 at hm
          obtain ⟨x1_93, ex1_93⟩ : ∃ y : Int32, y = x1 + (1 : Int32) := ⟨_, rfl⟩
          have hm := hm x1_93 ex1_93
          refine lv_iinc (v := x1_93) (lv' := [(1, .int x1_93), (0, .ref (a 61))]) hx hb dX7_findEdges_93 hl (k := 1) rfl (by rw [ex1_93]; rfl) (by decide) rfl (fun ls hl => ?_)
          refine lv_goto (tgt := 7) hx hb dX7_findEdges_96 (by decide) ?_
          exact ih7 x1_93 S _ _ _ hm hP hS (lv_sub hl [1, 0] rfl)
        refine lv_aload_n hx hb dX7_findEdges_60 rfl (lv_at hl 0 rfl) ?_
        refine zg_7_best hx hb hts i7 hown hK hP (hts _ (List.mem_of_getElem? (i := 3) rfl)) dX7_findEdges_61 ?_
        refine lv_iload_n hx hb dX7_findEdges_64 rfl (lv_at hl 1 rfl) ?_
        obtain ⟨h_65, hm⟩ := hm
        refine z_iald hx hb hK hP zI_68 h_65 dX7_findEdges_65 ?_
        refine lv_aload_n hx hb dX7_findEdges_66 rfl (lv_at hl 0 rfl) ?_
        refine zg_7_lows hx hb hts i7 hown hK hP (hts _ (List.mem_of_getElem? (i := 6) rfl)) dX7_findEdges_67 ?_
        refine lv_iload_n hx hb dX7_findEdges_70 rfl (lv_at hl 1 rfl) ?_
        obtain ⟨h_71, hm⟩ := hm
        refine z_iald hx hb hK hP zI_62 h_71 dX7_findEdges_71 ?_
        refine lv_icmp_le (tgt := 93) hx hb dX7_findEdges_72 (by decide) (fun c_72 => ?_) (fun c_72 => ?_)
        · have hm := hm.1 c_72
          exact b93 x1 S _ _ _ hm hP hS (lv_sub hl [0, 1] rfl)
        · have hm := hm.2 c_72
          refine lv_aload_n hx hb dX7_findEdges_75 rfl (lv_at hl 0 rfl) ?_
          refine lv_iload_n hx hb dX7_findEdges_76 rfl (lv_at hl 2 rfl) ?_
          refine lv_iload_n hx hb dX7_findEdges_77 rfl (lv_at hl 3 rfl) ?_
          refine lv_aload_n hx hb dX7_findEdges_78 rfl (lv_at hl 0 rfl) ?_
          refine zg_7_costs hx hb hts i7 hown hK hP (hts _ (List.mem_of_getElem? (i := 5) rfl)) dX7_findEdges_79 ?_
          refine lv_iload_n hx hb dX7_findEdges_82 rfl (lv_at hl 1 rfl) ?_
          obtain ⟨h_83, hm⟩ := hm
          refine z_iald hx hb hK hP zI_64 h_83 dX7_findEdges_83 ?_
          refine lv_ineg hx hb dX7_findEdges_84 ?_
          refine lv_i2l hx hb dX7_findEdges_85 rfl ?_
          refine lv_iload_n hx hb dX7_findEdges_86 rfl (lv_at hl 1 rfl) ?_
          refine lv_ineg hx hb dX7_findEdges_87 ?_
          refine lv_iconst (v := (1 : Int32)) hx hb dX7_findEdges_88 (by decide) ?_
          refine lv_isub hx hb dX7_findEdges_89 ?_
          refine z_cVv (As := [.int x2, .int x3, .long (Int32.toInt64 (-(S.1 64 (x1).toNatClampNeg))), .int ((-x1) - (1 : Int32))]) (rest := []) hF hK hP hS zO_61 rfl rfl (c_X7_edge l D k a hj x2 x3 (Int32.toInt64 (-(S.1 64 (x1).toNatClampNeg))) ((-x1) - (1 : Int32)) S _ hm _) (cwV 4 hts gX7_findEdges_X7_edge rfl rfl rfl (by decide +kernel) ⟨Nat.le_of_ble_eq_true rfl, Nat.le_of_ble_eq_true rfl⟩) rfl hl.1 rfl (Nat.le_of_ble_eq_true rfl) dX7_findEdges_90 ⟨Nat.zero_le _, Nat.zero_le _⟩ (fun S_90 H locs hm hP hS => ?_)
          exact b93 x1 S_90 _ _ _ hm hP hS (lv_sub hl [0, 1] rfl)
      refine lv_iload_n hx hb dX7_findEdges_7 rfl (lv_at hl 1 rfl) ?_
      refine lv_aload_n hx hb dX7_findEdges_8 rfl (lv_at hl 0 rfl) ?_
      refine zg_7_columns hx hb hts i7 hown hK hP (hts _ (List.mem_of_getElem? (i := 2) rfl)) dX7_findEdges_9 ?_
      refine lv_icmp_ge (tgt := 99) hx hb dX7_findEdges_12 (by decide) (fun c_12 => ?_) (fun c_12 => ?_)
      · have hm := hm.1 c_12
        exact b99  S _ _ _ hm hP hS (lv_sub hl [0] rfl)
      · have hm := hm.2 c_12
        refine lv_aload_n hx hb dX7_findEdges_15 rfl (lv_at hl 0 rfl) ?_
        refine lv_iload_n hx hb dX7_findEdges_16 rfl (lv_at hl 1 rfl) ?_
        refine lv_iconst (v := (1 : Int32)) hx hb dX7_findEdges_17 (by decide) ?_
        refine z_cVi (As := [.int x1, .int (1 : Int32)]) (rest := []) hF hK hP hS zO_61 rfl rfl (c_X7_endOf l D k a hj x1 (1 : Int32) S _ hm _) (cwV 2 hts gX7_findEdges_X7_endOf rfl rfl rfl (by decide +kernel) ⟨Nat.le_of_ble_eq_true rfl, Nat.le_of_ble_eq_true rfl⟩) rfl hl.1 rfl (Nat.le_of_ble_eq_true rfl) dX7_findEdges_18 ⟨Nat.zero_le _, Nat.zero_le _⟩ (fun r_18 S_18 H locs hm hP hS => ?_)
        refine lv_istore_n (lv' := [(2, .int r_18), (0, .ref (a 61)), (1, .int x1)]) hx hb dX7_findEdges_21 rfl hl (by decide) rfl (fun ls hl => ?_)
        refine lv_aload_n hx hb dX7_findEdges_22 rfl (lv_at hl 1 rfl) ?_
        refine lv_iload_n hx hb dX7_findEdges_23 rfl (lv_at hl 2 rfl) ?_
        refine lv_iconst (v := (-1 : Int32)) hx hb dX7_findEdges_24 (by decide) ?_
        refine z_cVi (As := [.int x1, .int (-1 : Int32)]) (rest := []) hF hK hP hS zO_61 rfl rfl (c_X7_endOf l D k a hj x1 (-1 : Int32) S_18 _ hm _) (cwV 2 hts gX7_findEdges_X7_endOf rfl rfl rfl (by decide +kernel) ⟨Nat.le_of_ble_eq_true rfl, Nat.le_of_ble_eq_true rfl⟩) rfl hl.1 rfl (Nat.le_of_ble_eq_true rfl) dX7_findEdges_25 ⟨Nat.zero_le _, Nat.zero_le _⟩ (fun r_25 S_25 H locs hm hP hS => ?_)
        refine lv_istore_n (lv' := [(3, .int r_25), (2, .int r_18), (0, .ref (a 61)), (1, .int x1)]) hx hb dX7_findEdges_28 rfl hl (by decide) rfl (fun ls hl => ?_)
        refine lv_aload_n hx hb dX7_findEdges_29 rfl (lv_at hl 2 rfl) ?_
        refine zg_7_best hx hb hts i7 hown hK hP (hts _ (List.mem_of_getElem? (i := 3) rfl)) dX7_findEdges_30 ?_
        refine lv_iload_n hx hb dX7_findEdges_33 rfl (lv_at hl 3 rfl) ?_
        obtain ⟨h_34, hm⟩ := hm
        refine z_iald hx hb hK hP zI_68 h_34 dX7_findEdges_34 ?_
        refine lv_aload_n hx hb dX7_findEdges_35 rfl (lv_at hl 2 rfl) ?_
        refine zg_7_highs hx hb hts i7 hown hK hP (hts _ (List.mem_of_getElem? (i := 4) rfl)) dX7_findEdges_36 ?_
        refine lv_iload_n hx hb dX7_findEdges_39 rfl (lv_at hl 3 rfl) ?_
        obtain ⟨h_40, hm⟩ := hm
        refine z_iald hx hb hK hP zI_63 h_40 dX7_findEdges_40 ?_
        refine lv_icmp_ge (tgt := 60) hx hb dX7_findEdges_41 (by decide) (fun c_41 => ?_) (fun c_41 => ?_)
        · have hm := hm.1 c_41
          exact b60 x1 r_18 r_25 S_25 _ _ _ hm hP hS (lv_sub hl [2, 3, 1, 0] rfl)
        · have hm := hm.2 c_41
          refine lv_aload_n hx hb dX7_findEdges_44 rfl (lv_at hl 2 rfl) ?_
          refine lv_iload_n hx hb dX7_findEdges_45 rfl (lv_at hl 0 rfl) ?_
          refine lv_iload_n hx hb dX7_findEdges_46 rfl (lv_at hl 1 rfl) ?_
          refine lv_aload_n hx hb dX7_findEdges_47 rfl (lv_at hl 2 rfl) ?_
          refine zg_7_costs hx hb hts i7 hown hK hP (hts _ (List.mem_of_getElem? (i := 5) rfl)) dX7_findEdges_48 ?_
          refine lv_iload_n hx hb dX7_findEdges_51 rfl (lv_at hl 3 rfl) ?_
          obtain ⟨h_52, hm⟩ := hm
          refine z_iald hx hb hK hP zI_64 h_52 dX7_findEdges_52 ?_
          refine lv_i2l hx hb dX7_findEdges_53 rfl ?_
          refine lv_iload_n hx hb dX7_findEdges_54 rfl (lv_at hl 3 rfl) ?_
          refine lv_iconst (v := (1 : Int32)) hx hb dX7_findEdges_55 (by decide) ?_
          refine lv_iadd hx hb dX7_findEdges_56 ?_
          refine z_cVv (As := [.int r_25, .int r_18, .long (Int32.toInt64 (S_25.1 64 (x1).toNatClampNeg)), .int (x1 + (1 : Int32))]) (rest := []) hF hK hP hS zO_61 rfl rfl (c_X7_edge l D k a hj r_25 r_18 (Int32.toInt64 (S_25.1 64 (x1).toNatClampNeg)) (x1 + (1 : Int32)) S_25 _ hm _) (cwV 4 hts gX7_findEdges_X7_edge rfl rfl rfl (by decide +kernel) ⟨Nat.le_of_ble_eq_true rfl, Nat.le_of_ble_eq_true rfl⟩) rfl hl.1 rfl (Nat.le_of_ble_eq_true rfl) dX7_findEdges_57 ⟨Nat.zero_le _, Nat.zero_le _⟩ (fun S_57 H locs hm hP hS => ?_)
          exact b60 x1 r_18 r_25 S_57 _ _ _ hm hP hS (lv_sub hl [2, 3, 1, 0] rfl)
  unfold X7_findEdges at hm
  refine lv_aload_n hx hb dX7_findEdges_0 rfl (lv_at hl 0 rfl) ?_
  refine lv_iconst (v := (0 : Int32)) hx hb dX7_findEdges_1 (by decide) ?_
  refine zp_7_edges hx hb hts i7 hown hj hK hP hS (hts _ (List.mem_of_getElem? (i := 1) rfl)) dX7_findEdges_2 (fun H locs hP hS => ?_)
  obtain ⟨S_2, eS_2⟩ : ∃ z : ZS, z = zu S 61 20 (0 : Int32) := ⟨_, rfl⟩
  rw [← eS_2] at hP
  have hm := hm S_2 eS_2
  refine lv_iconst (v := (0 : Int32)) hx hb dX7_findEdges_5 (by decide) ?_
  refine lv_istore_n (lv' := [(1, .int (0 : Int32)), (0, .ref (a 61))]) hx hb dX7_findEdges_6 rfl hl (by decide) rfl (fun ls hl => ?_)
  obtain ⟨n7, hm⟩ := hm
  exact L7 n7 (0 : Int32) S_2 _ _ _ hm hP hS (lv_sub hl [1, 0] rfl)

abbrev rm_X7_spread : Room := { frames := 0, cells := 0, slots := 0, locals := 0 }
def X7_spread_b120 (x1 : Int32) (S : ZS) (Q : Int32 → ZS → Prop) : Prop :=
  Q x1 S
def X7_spread_b114 (x1 : Int32) (x2 : Int32) (S : ZS) (Q : Int32 → ZS → Prop) (k4 : Int32 × Int32 × ZS → Prop) : Prop :=
  ∀ x2_114 : Int32, x2_114 = x2 + (1 : Int32) → k4 (x1, x2_114, S)
def X7_spread_b108 (x1 : Int32) (x2 : Int32) (x3 : Int32) (S : ZS) (Q : Int32 → ZS → Prop) (k4 : Int32 × Int32 × ZS → Prop) (k18 : Int32 × Int32 × ZS → Prop) : Prop :=
  ∀ x3_108 : Int32, x3_108 = x3 + (1 : Int32) → k18 (x1, x3_108, S)
def X7_spread_B18 (x2 : Int32) (x1 : Int32) (x3 : Int32) (S : ZS) (Q : Int32 → ZS → Prop) (k4 : Int32 × Int32 × ZS → Prop) (k18 : Int32 × Int32 × ZS → Prop) : Prop :=
  ((S.1 61 20) ≤ x3 → X7_spread_b114 x1 x2 S Q k4) ∧ (¬ (S.1 61 20) ≤ x3 → vp_in x3 60 ∧ vp_in (S.1 75 (x3).toNatClampNeg) 9 ∧ vp_in x3 60 ∧ ∀ x4_44 : Int64, x4_44 = ((S.2 79 ((S.1 75 (x3).toNatClampNeg)).toNatClampNeg) + (S.2 77 (x3).toNatClampNeg)) → vp_in x3 60 ∧ vp_in (S.1 75 (x3).toNatClampNeg) 9 ∧ (0 ≤ (lg_cmp (S.2 79 ((S.1 75 (x3).toNatClampNeg)).toNatClampNeg) (1000000000000 : Int64)) → X7_spread_b108 x1 x2 x3 S Q k4 k18) ∧ (¬ 0 ≤ (lg_cmp (S.2 79 ((S.1 75 (x3).toNatClampNeg)).toNatClampNeg) (1000000000000 : Int64)) → vp_in x3 60 ∧ vp_in (S.1 76 (x3).toNatClampNeg) 9 ∧ (0 ≤ (lg_cmp x4_44 (S.2 79 ((S.1 76 (x3).toNatClampNeg)).toNatClampNeg)) → X7_spread_b108 x1 x2 x3 S Q k4 k18) ∧ (¬ 0 ≤ (lg_cmp x4_44 (S.2 79 ((S.1 76 (x3).toNatClampNeg)).toNatClampNeg)) → vp_in x3 60 ∧ vp_in (S.1 76 (x3).toNatClampNeg) 9 ∧ ∀ S_93 : ZS, S_93 = zw S 79 ((S.1 76 (x3).toNatClampNeg)).toNatClampNeg x4_44 → vp_in x3 60 ∧ vp_in (S_93.1 76 (x3).toNatClampNeg) 9 ∧ ∀ S_105 : ZS, S_105 = zu S_93 80 ((S_93.1 76 (x3).toNatClampNeg)).toNatClampNeg x3 → X7_spread_b108 x3 x2 x3 S_105 Q k4 k18)))
def X7_spread_L18 (x2 : Int32) (Q : Int32 → ZS → Prop) (k4 : Int32 × Int32 × ZS → Prop) : (Int32 × Int32 × ZS) → ((Int32 × Int32 × ZS) → Prop) → Prop := fun st k18 => X7_spread_B18 x2 st.1 st.2.1 st.2.2 Q k4 k18
def X7_spread_B4 (x1 : Int32) (x2 : Int32) (S : ZS) (Q : Int32 → ZS → Prop) (k4 : Int32 × Int32 × ZS → Prop) : Prop :=
  (((S.1 61 2) + (1 : Int32)) < x2 → X7_spread_b120 x1 S Q) ∧ (¬ ((S.1 61 2) + (1 : Int32)) < x2 → zl (X7_spread_L18 x2 Q k4) ((-1 : Int32), (0 : Int32), S))
def X7_spread_L4 (Q : Int32 → ZS → Prop) : (Int32 × Int32 × ZS) → ((Int32 × Int32 × ZS) → Prop) → Prop := fun st k4 => X7_spread_B4 st.1 st.2.1 st.2.2 Q k4
def X7_spread (S : ZS) (Q : Int32 → ZS → Prop) : Prop :=
  zl (X7_spread_L4 Q) ((-1 : Int32), (0 : Int32), S)
set_option maxHeartbeats 4000000 in
set_option maxRecDepth 100000 in
theorem c_X7_spread (l : Launch) (D : va_G) (k : Nat → ClassId) (a : Nat → Nat) (hj : zDj a) (S : ZS) (Q : Int32 → ZS → Prop) (hm : X7_spread S Q) (sz : Nat) : Met l yX7_spread wsX7_spread rm_X7_spread (zPc D k a [.ref (a 61)] S sz) (va_Qi Q (zB D k a) (zA a sz)) 0 0 (zA a sz) := by
  refine Met.ofW (cc := cX7_spread) (maxL := 6) (ret := (some .int)) (by decide) rfl ?_
  intro p e s m args below meth c s₁ B hml hv
  obtain ⟨rfl, hsz, hP, hK⟩ := hv
  have hx := B.exec
  have hb := B.bytes
  have hr := B.returns
  have hts := atoms_spec (ws := wsX7_spread) B.pre
  have hown : s.vm.findClass RX7 = some m.cls := findClass_of_methodNamed B.named
  have hlocks := B.notSynchronized
  subst hsz
  have hS : va_S (zA a s.heap.size) s.heap s.heap [] := va_S.rf
  have hF : CallFix p m c cX7_spread 6 s _ wsX7_spread RX7 := ⟨hx, hb, hml, hown, hts⟩
  have i7 : ∀ w ∈ wsX70, w ∈ wsX7_spread := fun _ h => (List.mem_cons_of_mem _ (List.mem_append_right _ h))
  have hl := lv_entry ([.ref (a 61)]) (n := 6) (Nat.le_of_ble_eq_true rfl)
  rw [lg_entry_eq]
  generalize (lg_sl ([.ref (a 61)]) ++ List.replicate (6 - (lg_sl ([.ref (a 61)])).length) Slot.unset).toArray = ls at hl ⊢
  have hl : lv_has ls 6 [(0, .ref (a 61))] := hl
  have b120 : ∀ (x1 : Int32) (S : ZS) (H : Heap) (locs : List Loc) (ls : Array Slot), X7_spread_b120 x1 S Q → va_P D vwCl (zWS k a S) H → va_S (zA a s.heap.size) s.heap H locs → lv_has ls 6 [(0, .ref (a 61)), (1, .int x1)] → zWi p l e (headSpec wsX7_spread rm_X7_spread).room s m ([.ref (a 61)] : List Value) below meth c D k a Q H locs (F0 m 120 ls []) := by
    intro x1 S H locs ls hm hP hS hl
    unfold X7_spread_b120 at hm
    refine lv_iload_n hx hb dX7_spread_120 rfl (lv_at hl 1 rfl) ?_
    exact z_reti hx hb hr hlocks hP hS hm dX7_spread_121
  have L4 : ∀ (n : Nat) (x1 : Int32) (x2 : Int32) (S : ZS) (H : Heap) (locs : List Loc) (ls : Array Slot), zn (X7_spread_L4 Q) n (x1, x2, S) → va_P D vwCl (zWS k a S) H → va_S (zA a s.heap.size) s.heap H locs → lv_has ls 6 [(0, .ref (a 61)), (1, .int x1), (2, .int x2)] → zWi p l e (headSpec wsX7_spread rm_X7_spread).room s m ([.ref (a 61)] : List Value) below meth c D k a Q H locs (F0 m 4 ls []) := by
    intro n
    induction n with
    | zero =>
      intro x1 x2 S H locs ls hm
      exact hm.elim
    | succ n ih4 =>
      intro x1 x2 S H locs ls hm hP hS hl
      have hm : X7_spread_B4 x1 x2 S Q (zn (X7_spread_L4 Q) n) := hm
      generalize zn (X7_spread_L4 Q) n = k4 at hm ih4
      unfold X7_spread_B4 at hm
      have b114 : ∀ (x1 : Int32) (x2 : Int32) (S : ZS) (H : Heap) (locs : List Loc) (ls : Array Slot), X7_spread_b114 x1 x2 S Q k4 → va_P D vwCl (zWS k a S) H → va_S (zA a s.heap.size) s.heap H locs → lv_has ls 6 [(0, .ref (a 61)), (1, .int x1), (2, .int x2)] → zWi p l e (headSpec wsX7_spread rm_X7_spread).room s m ([.ref (a 61)] : List Value) below meth c D k a Q H locs (F0 m 114 ls []) := by
        intro x1 x2 S H locs ls hm hP hS hl
        unfold X7_spread_b114 at hm
        obtain ⟨x2_114, ex2_114⟩ : ∃ y : Int32, y = x2 + (1 : Int32) := ⟨_, rfl⟩
        have hm := hm x2_114 ex2_114
        refine lv_iinc (v := x2_114) (lv' := [(2, .int x2_114), (0, .ref (a 61)), (1, .int x1)]) hx hb dX7_spread_114 hl (k := 2) rfl (by rw [ex2_114]; rfl) (by decide) rfl (fun ls hl => ?_)
        refine lv_goto (tgt := 4) hx hb dX7_spread_117 (by decide) ?_
        exact ih4 x1 x2_114 S _ _ _ hm hP hS (lv_sub hl [1, 2, 0] rfl)
      have L18 : ∀ (x2 : Int32) (n : Nat) (x1 : Int32) (x3 : Int32) (S : ZS) (H : Heap) (locs : List Loc) (ls : Array Slot), zn (X7_spread_L18 x2 Q k4) n (x1, x3, S) → va_P D vwCl (zWS k a S) H → va_S (zA a s.heap.size) s.heap H locs → lv_has ls 6 [(0, .ref (a 61)), (1, .int x1), (2, .int x2), (3, .int x3)] → zWi p l e (headSpec wsX7_spread rm_X7_spread).room s m ([.ref (a 61)] : List Value) below meth c D k a Q H locs (F0 m 18 ls []) := by
        intro x2 n
        induction n with
        | zero =>
          intro x1 x3 S H locs ls hm
          exact hm.elim
        | succ n ih18 =>
          intro x1 x3 S H locs ls hm hP hS hl
          have hm : X7_spread_B18 x2 x1 x3 S Q k4 (zn (X7_spread_L18 x2 Q k4) n) := hm
          generalize zn (X7_spread_L18 x2 Q k4) n = k18 at hm ih18
          unfold X7_spread_B18 at hm
          have b108 : ∀ (x1 : Int32) (x3 : Int32) (S : ZS) (H : Heap) (locs : List Loc) (ls : Array Slot), X7_spread_b108 x1 x2 x3 S Q k4 k18 → va_P D vwCl (zWS k a S) H → va_S (zA a s.heap.size) s.heap H locs → lv_has ls 6 [(0, .ref (a 61)), (1, .int x1), (2, .int x2), (3, .int x3)] → zWi p l e (headSpec wsX7_spread rm_X7_spread).room s m ([.ref (a 61)] : List Value) below meth c D k a Q H locs (F0 m 108 ls []) := by
            intro x1 x3 S H locs ls hm hP hS hl
            unfold X7_spread_b108 at hm
            obtain ⟨x3_108, ex3_108⟩ : ∃ y : Int32, y = x3 + (1 : Int32) := ⟨_, rfl⟩
            have hm := hm x3_108 ex3_108
            refine lv_iinc (v := x3_108) (lv' := [(3, .int x3_108), (0, .ref (a 61)), (1, .int x1), (2, .int x2)]) hx hb dX7_spread_108 hl (k := 3) rfl (by rw [ex3_108]; rfl) (by decide) rfl (fun ls hl => ?_)
            refine lv_goto (tgt := 18) hx hb dX7_spread_111 (by decide) ?_
            exact ih18 x1 x3_108 S _ _ _ hm hP hS (lv_sub hl [1, 2, 3, 0] rfl)
          refine lv_iload_n hx hb dX7_spread_18 rfl (lv_at hl 3 rfl) ?_
          refine lv_aload_n hx hb dX7_spread_19 rfl (lv_at hl 0 rfl) ?_
          refine zg_7_edges hx hb hts i7 hown hK hP (hts _ (List.mem_of_getElem? (i := 2) rfl)) dX7_spread_20 ?_
          refine lv_icmp_ge (tgt := 114) hx hb dX7_spread_23 (by decide) (fun c_23 => ?_) (fun c_23 => ?_)
          · have hm := hm.1 c_23
            exact b114 x1 x2 S _ _ _ hm hP hS (lv_sub hl [0, 1, 2] rfl)
          · have hm := hm.2 c_23
            refine lv_aload_n hx hb dX7_spread_26 rfl (lv_at hl 0 rfl) ?_
            refine zg_7_far hx hb hts i7 hown hK hP (hts _ (List.mem_of_getElem? (i := 3) rfl)) dX7_spread_27 ?_
            refine lv_aload_n hx hb dX7_spread_30 rfl (lv_at hl 0 rfl) ?_
            refine zg_7_edgeFrom hx hb hts i7 hown hK hP (hts _ (List.mem_of_getElem? (i := 4) rfl)) dX7_spread_31 ?_
            refine lv_iload_n hx hb dX7_spread_34 rfl (lv_at hl 3 rfl) ?_
            obtain ⟨h_35, hm⟩ := hm
            refine z_iald hx hb hK hP zI_75 h_35 dX7_spread_35 ?_
            obtain ⟨h_36, hm⟩ := hm
            refine z_lald hx hb hK hP zJ_79 h_36 dX7_spread_36 ?_
            refine lv_aload_n hx hb dX7_spread_37 rfl (lv_at hl 0 rfl) ?_
            refine zg_7_edgeCost hx hb hts i7 hown hK hP (hts _ (List.mem_of_getElem? (i := 5) rfl)) dX7_spread_38 ?_
            refine lv_iload_n hx hb dX7_spread_41 rfl (lv_at hl 3 rfl) ?_
            obtain ⟨h_42, hm⟩ := hm
            refine z_lald hx hb hK hP zJ_77 h_42 dX7_spread_42 ?_
            refine lv_ladd hx hb dX7_spread_43 ?_
            refine lv_topl (fun x4_44 ex4_44 => ?_)
            have hm := hm x4_44 ex4_44
            refine lv_lstore (lv' := [(4, .long x4_44), (0, .ref (a 61)), (1, .int x1), (2, .int x2), (3, .int x3)]) hx hb dX7_spread_44 hl (by decide) rfl (fun ls hl => ?_)
            refine lv_aload_n hx hb dX7_spread_46 rfl (lv_at hl 1 rfl) ?_
            refine zg_7_far hx hb hts i7 hown hK hP (hts _ (List.mem_of_getElem? (i := 3) rfl)) dX7_spread_47 ?_
            refine lv_aload_n hx hb dX7_spread_50 rfl (lv_at hl 1 rfl) ?_
            refine zg_7_edgeFrom hx hb hts i7 hown hK hP (hts _ (List.mem_of_getElem? (i := 4) rfl)) dX7_spread_51 ?_
            refine lv_iload_n hx hb dX7_spread_54 rfl (lv_at hl 4 rfl) ?_
            obtain ⟨h_55, hm⟩ := hm
            refine z_iald hx hb hK hP zI_75 h_55 dX7_spread_55 ?_
            obtain ⟨h_56, hm⟩ := hm
            refine z_lald hx hb hK hP zJ_79 h_56 dX7_spread_56 ?_
            refine lv_ldc2 (v := (1000000000000 : Int64)) hx hb hown (hts _ (List.mem_of_getElem? (i := 6) rfl)) dX7_spread_57 ?_
            refine W.lcmp hx hb dX7_spread_60 ?_
            refine lv_if_ge (tgt := 108) hx hb dX7_spread_61 (by decide) (fun c_61 => ?_) (fun c_61 => ?_)
            · have hm := hm.1 c_61
              exact b108 x1 x3 S _ _ _ hm hP hS (lv_sub hl [1, 2, 3, 4] rfl)
            · have hm := hm.2 c_61
              refine lv_lload hx hb dX7_spread_64 (lv_at hl 0 rfl) ?_
              refine lv_aload_n hx hb dX7_spread_66 rfl (lv_at hl 1 rfl) ?_
              refine zg_7_far hx hb hts i7 hown hK hP (hts _ (List.mem_of_getElem? (i := 3) rfl)) dX7_spread_67 ?_
              refine lv_aload_n hx hb dX7_spread_70 rfl (lv_at hl 1 rfl) ?_
              refine zg_7_edgeTo hx hb hts i7 hown hK hP (hts _ (List.mem_of_getElem? (i := 7) rfl)) dX7_spread_71 ?_
              refine lv_iload_n hx hb dX7_spread_74 rfl (lv_at hl 4 rfl) ?_
              obtain ⟨h_75, hm⟩ := hm
              refine z_iald hx hb hK hP zI_76 h_75 dX7_spread_75 ?_
              obtain ⟨h_76, hm⟩ := hm
              refine z_lald hx hb hK hP zJ_79 h_76 dX7_spread_76 ?_
              refine W.lcmp hx hb dX7_spread_77 ?_
              refine lv_if_ge (tgt := 108) hx hb dX7_spread_78 (by decide) (fun c_78 => ?_) (fun c_78 => ?_)
              · have hm := hm.1 c_78
                exact b108 x1 x3 S _ _ _ hm hP hS (lv_sub hl [1, 2, 3, 4] rfl)
              · have hm := hm.2 c_78
                refine lv_aload_n hx hb dX7_spread_81 rfl (lv_at hl 1 rfl) ?_
                refine zg_7_far hx hb hts i7 hown hK hP (hts _ (List.mem_of_getElem? (i := 3) rfl)) dX7_spread_82 ?_
                refine lv_aload_n hx hb dX7_spread_85 rfl (lv_at hl 1 rfl) ?_
                refine zg_7_edgeTo hx hb hts i7 hown hK hP (hts _ (List.mem_of_getElem? (i := 7) rfl)) dX7_spread_86 ?_
                refine lv_iload_n hx hb dX7_spread_89 rfl (lv_at hl 4 rfl) ?_
                obtain ⟨h_90, hm⟩ := hm
                refine z_iald hx hb hK hP zI_76 h_90 dX7_spread_90 ?_
                refine lv_lload hx hb dX7_spread_91 (lv_at hl 0 rfl) ?_
                obtain ⟨h_93, hm⟩ := hm
                refine z_last hx hb hj hK hP hS zJ_79 h_93 dX7_spread_93 (fun H locs hP hS => ?_)
                obtain ⟨S_93, eS_93⟩ : ∃ z : ZS, z = zw S 79 ((S.1 76 (x3).toNatClampNeg)).toNatClampNeg x4_44 := ⟨_, rfl⟩
                rw [← eS_93] at hP
                have hm := hm S_93 eS_93
                refine lv_aload_n hx hb dX7_spread_94 rfl (lv_at hl 1 rfl) ?_
                refine zg_7_by hx hb hts i7 hown hK hP (hts _ (List.mem_of_getElem? (i := 8) rfl)) dX7_spread_95 ?_
                refine lv_aload_n hx hb dX7_spread_98 rfl (lv_at hl 1 rfl) ?_
                refine zg_7_edgeTo hx hb hts i7 hown hK hP (hts _ (List.mem_of_getElem? (i := 7) rfl)) dX7_spread_99 ?_
                refine lv_iload_n hx hb dX7_spread_102 rfl (lv_at hl 4 rfl) ?_
                obtain ⟨h_103, hm⟩ := hm
                refine z_iald hx hb hK hP zI_76 h_103 dX7_spread_103 ?_
                refine lv_iload_n hx hb dX7_spread_104 rfl (lv_at hl 4 rfl) ?_
                obtain ⟨h_105, hm⟩ := hm
                refine z_iast hx hb hj hK hP hS zI_80 h_105 dX7_spread_105 (fun H locs hP hS => ?_)
                obtain ⟨S_105, eS_105⟩ : ∃ z : ZS, z = zu S_93 80 ((S_93.1 76 (x3).toNatClampNeg)).toNatClampNeg x3 := ⟨_, rfl⟩
                rw [← eS_105] at hP
                have hm := hm S_105 eS_105
                refine lv_iload_n hx hb dX7_spread_106 rfl (lv_at hl 4 rfl) ?_
                refine lv_istore_n (lv' := [(1, .int x3), (4, .long x4_44), (0, .ref (a 61)), (2, .int x2), (3, .int x3)]) hx hb dX7_spread_107 rfl hl (by decide) rfl (fun ls hl => ?_)
                exact b108 x3 x3 S_105 _ _ _ hm hP hS (lv_sub hl [2, 0, 3, 4] rfl)
      refine lv_iload_n hx hb dX7_spread_4 rfl (lv_at hl 2 rfl) ?_
      refine lv_aload_n hx hb dX7_spread_5 rfl (lv_at hl 0 rfl) ?_
      refine zg_7_rows hx hb hts i7 hown hK hP (hts _ (List.mem_of_getElem? (i := 1) rfl)) dX7_spread_6 ?_
      refine lv_iconst (v := (1 : Int32)) hx hb dX7_spread_9 (by decide) ?_
      refine lv_iadd hx hb dX7_spread_10 ?_
      refine lv_icmp_gt (tgt := 120) hx hb dX7_spread_11 (by decide) (fun c_11 => ?_) (fun c_11 => ?_)
      · have hm := hm.1 c_11
        exact b120 x1 S _ _ _ hm hP hS (lv_sub hl [0, 1] rfl)
      · have hm := hm.2 c_11
        refine lv_iconst (v := (-1 : Int32)) hx hb dX7_spread_14 (by decide) ?_
        refine lv_istore_n (lv' := [(1, .int (-1 : Int32)), (0, .ref (a 61)), (2, .int x2)]) hx hb dX7_spread_15 rfl hl (by decide) rfl (fun ls hl => ?_)
        refine lv_iconst (v := (0 : Int32)) hx hb dX7_spread_16 (by decide) ?_
        refine lv_istore_n (lv' := [(3, .int (0 : Int32)), (1, .int (-1 : Int32)), (0, .ref (a 61)), (2, .int x2)]) hx hb dX7_spread_17 rfl hl (by decide) rfl (fun ls hl => ?_)
        obtain ⟨n18, hm⟩ := hm
        exact L18 x2 n18 (-1 : Int32) (0 : Int32) S _ _ _ hm hP hS (lv_sub hl [2, 1, 3, 0] rfl)
  unfold X7_spread at hm
  refine lv_iconst (v := (-1 : Int32)) hx hb dX7_spread_0 (by decide) ?_
  refine lv_istore_n (lv' := [(1, .int (-1 : Int32)), (0, .ref (a 61))]) hx hb dX7_spread_1 rfl hl (by decide) rfl (fun ls hl => ?_)
  refine lv_iconst (v := (0 : Int32)) hx hb dX7_spread_2 (by decide) ?_
  refine lv_istore_n (lv' := [(2, .int (0 : Int32)), (1, .int (-1 : Int32)), (0, .ref (a 61))]) hx hb dX7_spread_3 rfl hl (by decide) rfl (fun ls hl => ?_)
  obtain ⟨n4, hm⟩ := hm
  exact L4 n4 (-1 : Int32) (0 : Int32) S _ _ _ hm hP hS (lv_sub hl [2, 1, 0] rfl)

abbrev rm_X7_roomOf : Room := { frames := 2, cells := 0, slots := 0, locals := 46 }
def X7_roomOf_b90 (t0 : Int64) (S : ZS) (Q : Int64 → ZS → Prop) : Prop :=
  Q t0 S
def X7_roomOf (y1 : Int32) (S : ZS) (Q : Int64 → ZS → Prop) : Prop :=
  vp_in y1 60 ∧ ∀ x2_6 : Int32, x2_6 = (S.1 78 (y1).toNatClampNeg) → (x2_6 < (100 : Int32) → ((-100 : Int32) < x2_6 → (x2_6 ≤ 0 → vp_in ((-x2_6) - (1 : Int32)) 10 ∧ vp_in ((-x2_6) - (1 : Int32)) 10 ∧ X7_roomOf_b90 (Int32.toInt64 ((S.1 68 (((-x2_6) - (1 : Int32))).toNatClampNeg) - (S.1 62 (((-x2_6) - (1 : Int32))).toNatClampNeg))) S Q) ∧ (¬ x2_6 ≤ 0 → vp_in (x2_6 - (1 : Int32)) 10 ∧ vp_in (x2_6 - (1 : Int32)) 10 ∧ X7_roomOf_b90 (Int32.toInt64 ((S.1 63 ((x2_6 - (1 : Int32))).toNatClampNeg) - (S.1 68 ((x2_6 - (1 : Int32))).toNatClampNeg))) S Q)) ∧ (¬ (-100 : Int32) < x2_6 → vp_in ((-x2_6) - (100 : Int32)) 8 ∧ X7_sumOf ((-x2_6) - (100 : Int32)) S (fun r_40 S_40 => Q ((Int32.toInt64 (S.1 66 (((-x2_6) - (100 : Int32))).toNatClampNeg)) - r_40) S_40))) ∧ (¬ x2_6 < (100 : Int32) → Q (1000000000000 : Int64) S)
set_option maxHeartbeats 4000000 in
set_option maxRecDepth 100000 in
theorem c_X7_roomOf (l : Launch) (D : va_G) (k : Nat → ClassId) (a : Nat → Nat) (hj : zDj a) (y1 : Int32) (S : ZS) (Q : Int64 → ZS → Prop) (hm : X7_roomOf y1 S Q) (sz : Nat) : Met l yX7_roomOf wsX7_roomOf rm_X7_roomOf (zPc D k a [.ref (a 61), .int y1] S sz) (va_Ql Q (zB D k a) (zA a sz)) 0 0 (zA a sz) := by
  refine Met.ofW (cc := cX7_roomOf) (maxL := 3) (ret := (some .long)) (by decide) rfl ?_
  intro p e s m args below meth c s₁ B hml hv
  obtain ⟨rfl, hsz, hP, hK⟩ := hv
  have hx := B.exec
  have hb := B.bytes
  have hr := B.returns
  have hts := atoms_spec (ws := wsX7_roomOf) B.pre
  have hown : s.vm.findClass RX7 = some m.cls := findClass_of_methodNamed B.named
  have hlocks := B.notSynchronized
  subst hsz
  have hS : va_S (zA a s.heap.size) s.heap s.heap [] := va_S.rf
  have hF : CallFix p m c cX7_roomOf 3 s _ wsX7_roomOf RX7 := ⟨hx, hb, hml, hown, hts⟩
  have i7 : ∀ w ∈ wsX70, w ∈ wsX7_roomOf := fun _ h => (List.mem_cons_of_mem _ (List.mem_append_right _ h))
  have hl := lv_entry ([.ref (a 61), .int y1]) (n := 3) (Nat.le_of_ble_eq_true rfl)
  rw [lg_entry_eq]
  generalize (lg_sl ([.ref (a 61), .int y1]) ++ List.replicate (3 - (lg_sl ([.ref (a 61), .int y1])).length) Slot.unset).toArray = ls at hl ⊢
  have hl : lv_has ls 3 [(0, .ref (a 61)), (1, .int y1)] := hl
  have b90 : ∀ (t0 : Int64) (S : ZS) (H : Heap) (locs : List Loc) (ls : Array Slot), X7_roomOf_b90 t0 S Q → va_P D vwCl (zWS k a S) H → va_S (zA a s.heap.size) s.heap H locs → lv_has ls 3 [(0, .ref (a 61))] → zWl p l e (headSpec wsX7_roomOf rm_X7_roomOf).room s m ([.ref (a 61), .int y1] : List Value) below meth c D k a Q H locs (F0 m 90 ls [.long t0]) := by
    intro t0 S H locs ls hm hP hS hl
    unfold X7_roomOf_b90 at hm
    exact z_retl hx hb hr hlocks hP hS hm dX7_roomOf_90
  unfold X7_roomOf at hm
  refine lv_aload_n hx hb dX7_roomOf_0 rfl (lv_at hl 0 rfl) ?_
  refine zg_7_edgeOf hx hb hts i7 hown hK hP (hts _ (List.mem_of_getElem? (i := 1) rfl)) dX7_roomOf_1 ?_
  refine lv_iload_n hx hb dX7_roomOf_4 rfl (lv_at hl 1 rfl) ?_
  obtain ⟨h_5, hm⟩ := hm
  refine z_iald hx hb hK hP zI_78 h_5 dX7_roomOf_5 ?_
  refine lv_topi (fun x2_6 ex2_6 => ?_)
  have hm := hm x2_6 ex2_6
  refine lv_istore_n (lv' := [(2, .int x2_6), (0, .ref (a 61)), (1, .int y1)]) hx hb dX7_roomOf_6 rfl hl (by decide) rfl (fun ls hl => ?_)
  refine lv_iload_n hx hb dX7_roomOf_7 rfl (lv_at hl 0 rfl) ?_
  refine lv_bipush (v := (100 : Int32)) hx hb dX7_roomOf_8 (by decide) ?_
  refine lv_icmp_lt (tgt := 17) hx hb dX7_roomOf_10 (by decide) (fun c_10 => ?_) (fun c_10 => ?_)
  · have hm := hm.1 c_10
    refine lv_iload_n hx hb dX7_roomOf_17 rfl (lv_at hl 0 rfl) ?_
    refine lv_bipush (v := (-100 : Int32)) hx hb dX7_roomOf_18 (by decide) ?_
    refine lv_icmp_gt (tgt := 45) hx hb dX7_roomOf_20 (by decide) (fun c_20 => ?_) (fun c_20 => ?_)
    · have hm := hm.1 c_20
      refine lv_iload_n hx hb dX7_roomOf_45 rfl (lv_at hl 0 rfl) ?_
      refine lv_if_le (tgt := 70) hx hb dX7_roomOf_46 (by decide) (fun c_46 => ?_) (fun c_46 => ?_)
      · have hm := hm.1 c_46
        refine lv_aload_n hx hb dX7_roomOf_70 rfl (lv_at hl 1 rfl) ?_
        refine zg_7_best hx hb hts i7 hown hK hP (hts _ (List.mem_of_getElem? (i := 5) rfl)) dX7_roomOf_71 ?_
        refine lv_iload_n hx hb dX7_roomOf_74 rfl (lv_at hl 0 rfl) ?_
        refine lv_ineg hx hb dX7_roomOf_75 ?_
        refine lv_iconst (v := (1 : Int32)) hx hb dX7_roomOf_76 (by decide) ?_
        refine lv_isub hx hb dX7_roomOf_77 ?_
        obtain ⟨h_78, hm⟩ := hm
        refine z_iald hx hb hK hP zI_68 h_78 dX7_roomOf_78 ?_
        refine lv_aload_n hx hb dX7_roomOf_79 rfl (lv_at hl 1 rfl) ?_
        refine zg_7_lows hx hb hts i7 hown hK hP (hts _ (List.mem_of_getElem? (i := 6) rfl)) dX7_roomOf_80 ?_
        refine lv_iload_n hx hb dX7_roomOf_83 rfl (lv_at hl 0 rfl) ?_
        refine lv_ineg hx hb dX7_roomOf_84 ?_
        refine lv_iconst (v := (1 : Int32)) hx hb dX7_roomOf_85 (by decide) ?_
        refine lv_isub hx hb dX7_roomOf_86 ?_
        obtain ⟨h_87, hm⟩ := hm
        refine z_iald hx hb hK hP zI_62 h_87 dX7_roomOf_87 ?_
        refine lv_isub hx hb dX7_roomOf_88 ?_
        refine lv_i2l hx hb dX7_roomOf_89 rfl ?_
        exact b90 (Int32.toInt64 ((S.1 68 (((-x2_6) - (1 : Int32))).toNatClampNeg) - (S.1 62 (((-x2_6) - (1 : Int32))).toNatClampNeg))) S _ _ _ hm hP hS (lv_sub hl [1] rfl)
      · have hm := hm.2 c_46
        refine lv_aload_n hx hb dX7_roomOf_49 rfl (lv_at hl 1 rfl) ?_
        refine zg_7_highs hx hb hts i7 hown hK hP (hts _ (List.mem_of_getElem? (i := 4) rfl)) dX7_roomOf_50 ?_
        refine lv_iload_n hx hb dX7_roomOf_53 rfl (lv_at hl 0 rfl) ?_
        refine lv_iconst (v := (1 : Int32)) hx hb dX7_roomOf_54 (by decide) ?_
        refine lv_isub hx hb dX7_roomOf_55 ?_
        obtain ⟨h_56, hm⟩ := hm
        refine z_iald hx hb hK hP zI_63 h_56 dX7_roomOf_56 ?_
        refine lv_aload_n hx hb dX7_roomOf_57 rfl (lv_at hl 1 rfl) ?_
        refine zg_7_best hx hb hts i7 hown hK hP (hts _ (List.mem_of_getElem? (i := 5) rfl)) dX7_roomOf_58 ?_
        refine lv_iload_n hx hb dX7_roomOf_61 rfl (lv_at hl 0 rfl) ?_
        refine lv_iconst (v := (1 : Int32)) hx hb dX7_roomOf_62 (by decide) ?_
        refine lv_isub hx hb dX7_roomOf_63 ?_
        obtain ⟨h_64, hm⟩ := hm
        refine z_iald hx hb hK hP zI_68 h_64 dX7_roomOf_64 ?_
        refine lv_isub hx hb dX7_roomOf_65 ?_
        refine lv_i2l hx hb dX7_roomOf_66 rfl ?_
        refine lv_goto (tgt := 90) hx hb dX7_roomOf_67 (by decide) ?_
        exact b90 (Int32.toInt64 ((S.1 63 ((x2_6 - (1 : Int32))).toNatClampNeg) - (S.1 68 ((x2_6 - (1 : Int32))).toNatClampNeg))) S _ _ _ hm hP hS (lv_sub hl [1] rfl)
    · have hm := hm.2 c_20
      refine lv_aload_n hx hb dX7_roomOf_23 rfl (lv_at hl 1 rfl) ?_
      refine zg_7_rights hx hb hts i7 hown hK hP (hts _ (List.mem_of_getElem? (i := 3) rfl)) dX7_roomOf_24 ?_
      refine lv_iload_n hx hb dX7_roomOf_27 rfl (lv_at hl 0 rfl) ?_
      refine lv_ineg hx hb dX7_roomOf_28 ?_
      refine lv_bipush (v := (100 : Int32)) hx hb dX7_roomOf_29 (by decide) ?_
      refine lv_isub hx hb dX7_roomOf_31 ?_
      obtain ⟨h_32, hm⟩ := hm
      refine z_iald hx hb hK hP zI_66 h_32 dX7_roomOf_32 ?_
      refine lv_i2l hx hb dX7_roomOf_33 rfl ?_
      refine lv_aload_n hx hb dX7_roomOf_34 rfl (lv_at hl 1 rfl) ?_
      refine lv_iload_n hx hb dX7_roomOf_35 rfl (lv_at hl 0 rfl) ?_
      refine lv_ineg hx hb dX7_roomOf_36 ?_
      refine lv_bipush (v := (100 : Int32)) hx hb dX7_roomOf_37 (by decide) ?_
      refine lv_isub hx hb dX7_roomOf_39 ?_
      refine z_cVl (As := [.int ((-x2_6) - (100 : Int32))]) (rest := [.long (Int32.toInt64 (S.1 66 (((-x2_6) - (100 : Int32))).toNatClampNeg))]) hF hK hP hS zO_61 rfl rfl (c_X7_sumOf l D k a hj ((-x2_6) - (100 : Int32)) S _ hm _) (cwV 1 hts gX7_roomOf_X7_sumOf rfl rfl rfl (by decide +kernel) ⟨Nat.le_of_ble_eq_true rfl, Nat.le_of_ble_eq_true rfl⟩) rfl hl.1 rfl (Nat.le_of_ble_eq_true rfl) dX7_roomOf_40 ⟨Nat.zero_le _, Nat.zero_le _⟩ (fun r_40 S_40 H locs hm hP hS => ?_)
      refine lv_lsub hx hb dX7_roomOf_43 ?_
      exact z_retl hx hb hr hlocks hP hS hm dX7_roomOf_44
  · have hm := hm.2 c_10
    refine lv_ldc2 (v := (1000000000000 : Int64)) hx hb hown (hts _ (List.mem_of_getElem? (i := 2) rfl)) dX7_roomOf_13 ?_
    exact z_retl hx hb hr hlocks hP hS hm dX7_roomOf_16

abbrev rm_X7_turn : Room := { frames := 3, cells := 0, slots := 0, locals := 68 }
def X7_turn_b224 (S : ZS) (Q : ZS → Prop) : Prop :=
  Q S
def X7_turn_b206 (x2 : Int32) (x3 : Int64) (x5 : Int32) (x6 : Int32) (S : ZS) (Q : ZS → Prop) (k117 : Int32 × Int32 × ZS → Prop) : Prop :=
  vp_in x2 9 ∧ vp_in (S.1 80 (x2).toNatClampNeg) 60 ∧ ∀ x2_217 : Int32, x2_217 = (S.1 75 ((S.1 80 (x2).toNatClampNeg)).toNatClampNeg) → ∀ x6_218 : Int32, x6_218 = x6 + (1 : Int32) → k117 (x2_217, x6_218, S)
def X7_turn_b179 (x2 : Int32) (x3 : Int64) (x5 : Int32) (x6 : Int32) (x7 : Int32) (S : ZS) (Q : ZS → Prop) (k117 : Int32 × Int32 × ZS → Prop) : Prop :=
  (0 ≤ x7 → X7_turn_b206 x2 x3 x5 x6 S Q k117) ∧ (¬ 0 ≤ x7 → (x7 ≤ (-100 : Int32) → X7_turn_b206 x2 x3 x5 x6 S Q k117) ∧ (¬ x7 ≤ (-100 : Int32) → vp_in ((-x7) - (1 : Int32)) 10 ∧ vp_in ((-x7) - (1 : Int32)) 10 ∧ ∀ S_205 : ZS, S_205 = zu S 68 (((-x7) - (1 : Int32))).toNatClampNeg ((S.1 68 (((-x7) - (1 : Int32))).toNatClampNeg) - (Int64.toInt32 x3)) → X7_turn_b206 x2 x3 x5 x6 S_205 Q k117))
def X7_turn_b137 (x2 : Int32) (x3 : Int64) (x5 : Int32) (x6 : Int32) (S : ZS) (Q : ZS → Prop) (k117 : Int32 × Int32 × ZS → Prop) : Prop :=
  vp_in x2 9 ∧ vp_in (S.1 80 (x2).toNatClampNeg) 60 ∧ ∀ x7_148 : Int32, x7_148 = (S.1 78 ((S.1 80 (x2).toNatClampNeg)).toNatClampNeg) → (x7_148 ≤ 0 → X7_turn_b179 x2 x3 x5 x6 x7_148 S Q k117) ∧ (¬ x7_148 ≤ 0 → ((100 : Int32) ≤ x7_148 → X7_turn_b179 x2 x3 x5 x6 x7_148 S Q k117) ∧ (¬ (100 : Int32) ≤ x7_148 → vp_in (x7_148 - (1 : Int32)) 10 ∧ vp_in (x7_148 - (1 : Int32)) 10 ∧ ∀ S_175 : ZS, S_175 = zu S 68 ((x7_148 - (1 : Int32))).toNatClampNeg ((S.1 68 ((x7_148 - (1 : Int32))).toNatClampNeg) + (Int64.toInt32 x3)) → X7_turn_b206 x2 x3 x5 x6 S_175 Q k117))
def X7_turn_B117 (x3 : Int64) (x5 : Int32) (x2 : Int32) (x6 : Int32) (S : ZS) (Q : ZS → Prop) (k117 : Int32 × Int32 × ZS → Prop) : Prop :=
  ((S.1 61 2) < x6 → X7_turn_b224 S Q) ∧ (¬ (S.1 61 2) < x6 → (x6 = 0 → X7_turn_b137 x2 x3 x5 x6 S Q k117) ∧ (¬ x6 = 0 → (x2 = x5 → X7_turn_b224 S Q) ∧ (¬ x2 = x5 → X7_turn_b137 x2 x3 x5 x6 S Q k117)))
def X7_turn_L117 (x3 : Int64) (x5 : Int32) (Q : ZS → Prop) : (Int32 × Int32 × ZS) → ((Int32 × Int32 × ZS) → Prop) → Prop := fun st k117 => X7_turn_B117 x3 x5 st.1 st.2.1 st.2.2 Q k117
def X7_turn_b111 (x3 : Int64) (x5 : Int32) (S : ZS) (Q : ZS → Prop) : Prop :=
  zl (X7_turn_L117 x3 x5 Q) (x5, (0 : Int32), S)
def X7_turn_b92 (x2 : Int32) (x5 : Int32) (x6 : Int32) (t0 : Int64) (S : ZS) (Q : ZS → Prop) (k47 : Int32 × Int64 × Int32 × ZS → Prop) : Prop :=
  vp_in x2 9 ∧ vp_in (S.1 80 (x2).toNatClampNeg) 60 ∧ ∀ x2_104 : Int32, x2_104 = (S.1 75 ((S.1 80 (x2).toNatClampNeg)).toNatClampNeg) → ∀ x6_105 : Int32, x6_105 = x6 + (1 : Int32) → k47 (x2_104, t0, x6_105, S)
def X7_turn_b67 (x2 : Int32) (x3 : Int64) (x5 : Int32) (x6 : Int32) (S : ZS) (Q : ZS → Prop) (k47 : Int32 × Int64 × Int32 × ZS → Prop) : Prop :=
  vp_in x2 9 ∧ X7_roomOf (S.1 80 (x2).toNatClampNeg) S (fun r_74 S_74 => (0 ≤ (lg_cmp r_74 x3) → X7_turn_b92 x2 x5 x6 x3 S_74 Q k47) ∧ (¬ 0 ≤ (lg_cmp r_74 x3) → X7_turn_b92 x2 x5 x6 r_74 S_74 Q k47))
def X7_turn_B47 (x5 : Int32) (x2 : Int32) (x3 : Int64) (x6 : Int32) (S : ZS) (Q : ZS → Prop) (k47 : Int32 × Int64 × Int32 × ZS → Prop) : Prop :=
  ((S.1 61 2) < x6 → X7_turn_b111 x3 x5 S Q) ∧ (¬ (S.1 61 2) < x6 → (x6 = 0 → X7_turn_b67 x2 x3 x5 x6 S Q k47) ∧ (¬ x6 = 0 → (x2 = x5 → X7_turn_b111 x3 x5 S Q) ∧ (¬ x2 = x5 → X7_turn_b67 x2 x3 x5 x6 S Q k47)))
def X7_turn_L47 (x5 : Int32) (Q : ZS → Prop) : (Int32 × Int64 × Int32 × ZS) → ((Int32 × Int64 × Int32 × ZS) → Prop) → Prop := fun st k47 => X7_turn_B47 x5 st.1 st.2.1 st.2.2.1 st.2.2.2 Q k47
def X7_turn_b37 (x2 : Int32) (S : ZS) (Q : ZS → Prop) : Prop :=
  zl (X7_turn_L47 x2 Q) (x2, (1000000000000 : Int64), (0 : Int32), S)
def X7_turn_B9 (x2 : Int32) (x3 : Int32) (S : ZS) (Q : ZS → Prop) (k9 : Int32 × Int32 × ZS → Prop) : Prop :=
  (((S.1 61 2) + (1 : Int32)) < x3 → X7_turn_b37 x2 S Q) ∧ (¬ ((S.1 61 2) + (1 : Int32)) < x3 → vp_in x2 9 ∧ vp_in (S.1 80 (x2).toNatClampNeg) 60 ∧ ∀ x2_30 : Int32, x2_30 = (S.1 75 ((S.1 80 (x2).toNatClampNeg)).toNatClampNeg) → ∀ x3_31 : Int32, x3_31 = x3 + (1 : Int32) → k9 (x2_30, x3_31, S))
def X7_turn_L9 (Q : ZS → Prop) : (Int32 × Int32 × ZS) → ((Int32 × Int32 × ZS) → Prop) → Prop := fun st k9 => X7_turn_B9 st.1 st.2.1 st.2.2 Q k9
def X7_turn (y1 : Int32) (S : ZS) (Q : ZS → Prop) : Prop :=
  vp_in y1 60 ∧ ∀ x2_6 : Int32, x2_6 = (S.1 76 (y1).toNatClampNeg) → zl (X7_turn_L9 Q) (x2_6, (0 : Int32), S)
set_option maxHeartbeats 4000000 in
set_option maxRecDepth 100000 in
theorem c_X7_turn (l : Launch) (D : va_G) (k : Nat → ClassId) (a : Nat → Nat) (hj : zDj a) (y1 : Int32) (S : ZS) (Q : ZS → Prop) (hm : X7_turn y1 S Q) (sz : Nat) : Met l yX7_turn wsX7_turn rm_X7_turn (zPc D k a [.ref (a 61), .int y1] S sz) (va_Qv Q (zB D k a) (zA a sz)) 0 0 (zA a sz) := by
  refine Met.ofW (cc := cX7_turn) (maxL := 9) (ret := none) (by decide) rfl ?_
  intro p e s m args below meth c s₁ B hml hv
  obtain ⟨rfl, hsz, hP, hK⟩ := hv
  have hx := B.exec
  have hb := B.bytes
  have hr := B.returns
  have hts := atoms_spec (ws := wsX7_turn) B.pre
  have hown : s.vm.findClass RX7 = some m.cls := findClass_of_methodNamed B.named
  have hlocks := B.notSynchronized
  subst hsz
  have hS : va_S (zA a s.heap.size) s.heap s.heap [] := va_S.rf
  have hF : CallFix p m c cX7_turn 9 s _ wsX7_turn RX7 := ⟨hx, hb, hml, hown, hts⟩
  have i7 : ∀ w ∈ wsX70, w ∈ wsX7_turn := fun _ h => (List.mem_cons_of_mem _ (List.mem_append_right _ h))
  have hl := lv_entry ([.ref (a 61), .int y1]) (n := 9) (Nat.le_of_ble_eq_true rfl)
  rw [lg_entry_eq]
  generalize (lg_sl ([.ref (a 61), .int y1]) ++ List.replicate (9 - (lg_sl ([.ref (a 61), .int y1])).length) Slot.unset).toArray = ls at hl ⊢
  have hl : lv_has ls 9 [(0, .ref (a 61)), (1, .int y1)] := hl
  have b37 : ∀ (x2 : Int32) (S : ZS) (H : Heap) (locs : List Loc) (ls : Array Slot), X7_turn_b37 x2 S Q → va_P D vwCl (zWS k a S) H → va_S (zA a s.heap.size) s.heap H locs → lv_has ls 9 [(0, .ref (a 61)), (2, .int x2)] → zWv p l e (headSpec wsX7_turn rm_X7_turn).room s m ([.ref (a 61), .int y1] : List Value) below meth c D k a Q H locs (F0 m 37 ls []) := by
    intro x2 S H locs ls hm hP hS hl
    unfold X7_turn_b37 at hm
    have b111 : ∀ (x3 : Int64) (x5 : Int32) (S : ZS) (H : Heap) (locs : List Loc) (ls : Array Slot), X7_turn_b111 x3 x5 S Q → va_P D vwCl (zWS k a S) H → va_S (zA a s.heap.size) s.heap H locs → lv_has ls 9 [(0, .ref (a 61)), (3, .long x3), (5, .int x5)] → zWv p l e (headSpec wsX7_turn rm_X7_turn).room s m ([.ref (a 61), .int y1] : List Value) below meth c D k a Q H locs (F0 m 111 ls []) := by
      intro x3 x5 S H locs ls hm hP hS hl
      unfold X7_turn_b111 at hm
      have b224 : ∀ (S : ZS) (H : Heap) (locs : List Loc) (ls : Array Slot), X7_turn_b224 S Q → va_P D vwCl (zWS k a S) H → va_S (zA a s.heap.size) s.heap H locs → lv_has ls 9 [(0, .ref (a 61))] → zWv p l e (headSpec wsX7_turn rm_X7_turn).room s m ([.ref (a 61), .int y1] : List Value) below meth c D k a Q H locs (F0 m 224 ls []) := by
        intro S H locs ls hm hP hS hl
        unfold X7_turn_b224 at hm
        exact z_retv hx hb hr hlocks hP hS hm dX7_turn_224
      have L117 : ∀ (x3 : Int64) (x5 : Int32) (n : Nat) (x2 : Int32) (x6 : Int32) (S : ZS) (H : Heap) (locs : List Loc) (ls : Array Slot), zn (X7_turn_L117 x3 x5 Q) n (x2, x6, S) → va_P D vwCl (zWS k a S) H → va_S (zA a s.heap.size) s.heap H locs → lv_has ls 9 [(0, .ref (a 61)), (2, .int x2), (3, .long x3), (5, .int x5), (6, .int x6)] → zWv p l e (headSpec wsX7_turn rm_X7_turn).room s m ([.ref (a 61), .int y1] : List Value) below meth c D k a Q H locs (F0 m 117 ls []) := by
        intro x3 x5 n
        induction n with
        | zero =>
          intro x2 x6 S H locs ls hm
          exact hm.elim
        | succ n ih117 =>
          intro x2 x6 S H locs ls hm hP hS hl
          have hm : X7_turn_B117 x3 x5 x2 x6 S Q (zn (X7_turn_L117 x3 x5 Q) n) := hm
          generalize zn (X7_turn_L117 x3 x5 Q) n = k117 at hm ih117
          unfold X7_turn_B117 at hm
          have b137 : ∀ (x2 : Int32) (x6 : Int32) (S : ZS) (H : Heap) (locs : List Loc) (ls : Array Slot), X7_turn_b137 x2 x3 x5 x6 S Q k117 → va_P D vwCl (zWS k a S) H → va_S (zA a s.heap.size) s.heap H locs → lv_has ls 9 [(0, .ref (a 61)), (2, .int x2), (3, .long x3), (5, .int x5), (6, .int x6)] → zWv p l e (headSpec wsX7_turn rm_X7_turn).room s m ([.ref (a 61), .int y1] : List Value) below meth c D k a Q H locs (F0 m 137 ls []) := by
            intro x2 x6 S H locs ls hm hP hS hl
            unfold X7_turn_b137 at hm
            have b206 : ∀ (x2 : Int32) (x6 : Int32) (S : ZS) (H : Heap) (locs : List Loc) (ls : Array Slot), X7_turn_b206 x2 x3 x5 x6 S Q k117 → va_P D vwCl (zWS k a S) H → va_S (zA a s.heap.size) s.heap H locs → lv_has ls 9 [(0, .ref (a 61)), (2, .int x2), (3, .long x3), (5, .int x5), (6, .int x6)] → zWv p l e (headSpec wsX7_turn rm_X7_turn).room s m ([.ref (a 61), .int y1] : List Value) below meth c D k a Q H locs (F0 m 206 ls []) := by
              intro x2 x6 S H locs ls hm hP hS hl
              unfold X7_turn_b206 at hm
              refine lv_aload_n hx hb dX7_turn_206 rfl (lv_at hl 0 rfl) ?_
              refine zg_7_edgeFrom hx hb hts i7 hown hK hP (hts _ (List.mem_of_getElem? (i := 3) rfl)) dX7_turn_207 ?_
              refine lv_aload_n hx hb dX7_turn_210 rfl (lv_at hl 0 rfl) ?_
              refine zg_7_by hx hb hts i7 hown hK hP (hts _ (List.mem_of_getElem? (i := 4) rfl)) dX7_turn_211 ?_
              refine lv_iload_n hx hb dX7_turn_214 rfl (lv_at hl 1 rfl) ?_
              obtain ⟨h_215, hm⟩ := hm
              refine z_iald hx hb hK hP zI_80 h_215 dX7_turn_215 ?_
              obtain ⟨h_216, hm⟩ := hm
              refine z_iald hx hb hK hP zI_75 h_216 dX7_turn_216 ?_
              refine lv_topi (fun x2_217 ex2_217 => ?_)
              have hm := hm x2_217 ex2_217
              refine lv_istore_n (lv' := [(2, .int x2_217), (0, .ref (a 61)), (3, .long x3), (5, .int x5), (6, .int x6)]) hx hb dX7_turn_217 rfl hl (by decide) rfl (fun ls hl => ?_)
              obtain ⟨x6_218, ex6_218⟩ : ∃ y : Int32, y = x6 + (1 : Int32) := ⟨_, rfl⟩
              have hm := hm x6_218 ex6_218
              refine lv_iinc (v := x6_218) (lv' := [(6, .int x6_218), (2, .int x2_217), (0, .ref (a 61)), (3, .long x3), (5, .int x5)]) hx hb dX7_turn_218 hl (k := 4) rfl (by rw [ex6_218]; rfl) (by decide) rfl (fun ls hl => ?_)
              refine lv_goto (tgt := 117) hx hb dX7_turn_221 (by decide) ?_
              exact ih117 x2_217 x6_218 S _ _ _ hm hP hS (lv_sub hl [2, 1, 3, 4, 0] rfl)
            have b179 : ∀ (x2 : Int32) (x6 : Int32) (x7 : Int32) (S : ZS) (H : Heap) (locs : List Loc) (ls : Array Slot), X7_turn_b179 x2 x3 x5 x6 x7 S Q k117 → va_P D vwCl (zWS k a S) H → va_S (zA a s.heap.size) s.heap H locs → lv_has ls 9 [(0, .ref (a 61)), (2, .int x2), (3, .long x3), (5, .int x5), (6, .int x6), (7, .int x7)] → zWv p l e (headSpec wsX7_turn rm_X7_turn).room s m ([.ref (a 61), .int y1] : List Value) below meth c D k a Q H locs (F0 m 179 ls []) := by
              intro x2 x6 x7 S H locs ls hm hP hS hl
              unfold X7_turn_b179 at hm
              refine lv_iload hx hb dX7_turn_179 (lv_at hl 5 rfl) ?_
              refine lv_if_ge (tgt := 206) hx hb dX7_turn_181 (by decide) (fun c_181 => ?_) (fun c_181 => ?_)
              · have hm := hm.1 c_181
                exact b206 x2 x6 S _ _ _ hm hP hS (lv_sub hl [0, 1, 2, 3, 4] rfl)
              · have hm := hm.2 c_181
                refine lv_iload hx hb dX7_turn_184 (lv_at hl 5 rfl) ?_
                refine lv_bipush (v := (-100 : Int32)) hx hb dX7_turn_186 (by decide) ?_
                refine lv_icmp_le (tgt := 206) hx hb dX7_turn_188 (by decide) (fun c_188 => ?_) (fun c_188 => ?_)
                · have hm := hm.1 c_188
                  exact b206 x2 x6 S _ _ _ hm hP hS (lv_sub hl [0, 1, 2, 3, 4] rfl)
                · have hm := hm.2 c_188
                  refine lv_aload_n hx hb dX7_turn_191 rfl (lv_at hl 0 rfl) ?_
                  refine zg_7_best hx hb hts i7 hown hK hP (hts _ (List.mem_of_getElem? (i := 7) rfl)) dX7_turn_192 ?_
                  refine lv_iload hx hb dX7_turn_195 (lv_at hl 5 rfl) ?_
                  refine lv_ineg hx hb dX7_turn_197 ?_
                  refine lv_iconst (v := (1 : Int32)) hx hb dX7_turn_198 (by decide) ?_
                  refine lv_isub hx hb dX7_turn_199 ?_
                  refine lv_dup2_11 hx hb dX7_turn_200 rfl rfl ?_
                  obtain ⟨h_201, hm⟩ := hm
                  refine z_iald hx hb hK hP zI_68 h_201 dX7_turn_201 ?_
                  refine lv_lload_n hx hb dX7_turn_202 rfl (lv_at hl 2 rfl) ?_
                  refine lv_l2i hx hb dX7_turn_203 rfl ?_
                  refine lv_isub hx hb dX7_turn_204 ?_
                  obtain ⟨h_205, hm⟩ := hm
                  refine z_iast hx hb hj hK hP hS zI_68 h_205 dX7_turn_205 (fun H locs hP hS => ?_)
                  obtain ⟨S_205, eS_205⟩ : ∃ z : ZS, z = zu S 68 (((-x7) - (1 : Int32))).toNatClampNeg ((S.1 68 (((-x7) - (1 : Int32))).toNatClampNeg) - (Int64.toInt32 x3)) := ⟨_, rfl⟩
                  rw [← eS_205] at hP
                  have hm := hm S_205 eS_205
                  exact b206 x2 x6 S_205 _ _ _ hm hP hS (lv_sub hl [0, 1, 2, 3, 4] rfl)
            refine lv_aload_n hx hb dX7_turn_137 rfl (lv_at hl 0 rfl) ?_
            refine zg_7_edgeOf hx hb hts i7 hown hK hP (hts _ (List.mem_of_getElem? (i := 6) rfl)) dX7_turn_138 ?_
            refine lv_aload_n hx hb dX7_turn_141 rfl (lv_at hl 0 rfl) ?_
            refine zg_7_by hx hb hts i7 hown hK hP (hts _ (List.mem_of_getElem? (i := 4) rfl)) dX7_turn_142 ?_
            refine lv_iload_n hx hb dX7_turn_145 rfl (lv_at hl 1 rfl) ?_
            obtain ⟨h_146, hm⟩ := hm
            refine z_iald hx hb hK hP zI_80 h_146 dX7_turn_146 ?_
            obtain ⟨h_147, hm⟩ := hm
            refine z_iald hx hb hK hP zI_78 h_147 dX7_turn_147 ?_
            refine lv_topi (fun x7_148 ex7_148 => ?_)
            have hm := hm x7_148 ex7_148
            refine lv_istore (lv' := [(7, .int x7_148), (0, .ref (a 61)), (2, .int x2), (3, .long x3), (5, .int x5), (6, .int x6)]) hx hb dX7_turn_148 hl (by decide) rfl (fun ls hl => ?_)
            refine lv_iload hx hb dX7_turn_150 (lv_at hl 0 rfl) ?_
            refine lv_if_le (tgt := 179) hx hb dX7_turn_152 (by decide) (fun c_152 => ?_) (fun c_152 => ?_)
            · have hm := hm.1 c_152
              exact b179 x2 x6 x7_148 S _ _ _ hm hP hS (lv_sub hl [1, 2, 3, 4, 5, 0] rfl)
            · have hm := hm.2 c_152
              refine lv_iload hx hb dX7_turn_155 (lv_at hl 0 rfl) ?_
              refine lv_bipush (v := (100 : Int32)) hx hb dX7_turn_157 (by decide) ?_
              refine lv_icmp_ge (tgt := 179) hx hb dX7_turn_159 (by decide) (fun c_159 => ?_) (fun c_159 => ?_)
              · have hm := hm.1 c_159
                exact b179 x2 x6 x7_148 S _ _ _ hm hP hS (lv_sub hl [1, 2, 3, 4, 5, 0] rfl)
              · have hm := hm.2 c_159
                refine lv_aload_n hx hb dX7_turn_162 rfl (lv_at hl 1 rfl) ?_
                refine zg_7_best hx hb hts i7 hown hK hP (hts _ (List.mem_of_getElem? (i := 7) rfl)) dX7_turn_163 ?_
                refine lv_iload hx hb dX7_turn_166 (lv_at hl 0 rfl) ?_
                refine lv_iconst (v := (1 : Int32)) hx hb dX7_turn_168 (by decide) ?_
                refine lv_isub hx hb dX7_turn_169 ?_
                refine lv_dup2_11 hx hb dX7_turn_170 rfl rfl ?_
                obtain ⟨h_171, hm⟩ := hm
                refine z_iald hx hb hK hP zI_68 h_171 dX7_turn_171 ?_
                refine lv_lload_n hx hb dX7_turn_172 rfl (lv_at hl 3 rfl) ?_
                refine lv_l2i hx hb dX7_turn_173 rfl ?_
                refine lv_iadd hx hb dX7_turn_174 ?_
                obtain ⟨h_175, hm⟩ := hm
                refine z_iast hx hb hj hK hP hS zI_68 h_175 dX7_turn_175 (fun H locs hP hS => ?_)
                obtain ⟨S_175, eS_175⟩ : ∃ z : ZS, z = zu S 68 ((x7_148 - (1 : Int32))).toNatClampNeg ((S.1 68 ((x7_148 - (1 : Int32))).toNatClampNeg) + (Int64.toInt32 x3)) := ⟨_, rfl⟩
                rw [← eS_175] at hP
                have hm := hm S_175 eS_175
                refine lv_goto (tgt := 206) hx hb dX7_turn_176 (by decide) ?_
                exact b206 x2 x6 S_175 _ _ _ hm hP hS (lv_sub hl [1, 2, 3, 4, 5] rfl)
          refine lv_iload hx hb dX7_turn_117 (lv_at hl 4 rfl) ?_
          refine lv_aload_n hx hb dX7_turn_119 rfl (lv_at hl 0 rfl) ?_
          refine zg_7_rows hx hb hts i7 hown hK hP (hts _ (List.mem_of_getElem? (i := 2) rfl)) dX7_turn_120 ?_
          refine lv_icmp_gt (tgt := 224) hx hb dX7_turn_123 (by decide) (fun c_123 => ?_) (fun c_123 => ?_)
          · have hm := hm.1 c_123
            exact b224  S _ _ _ hm hP hS (lv_sub hl [0] rfl)
          · have hm := hm.2 c_123
            refine lv_iload hx hb dX7_turn_126 (lv_at hl 4 rfl) ?_
            refine lv_if_eq (tgt := 137) hx hb dX7_turn_128 (by decide) (fun c_128 => ?_) (fun c_128 => ?_)
            · have hm := hm.1 c_128
              exact b137 x2 x6 S _ _ _ hm hP hS (lv_sub hl [0, 1, 2, 3, 4] rfl)
            · have hm := hm.2 c_128
              refine lv_iload_n hx hb dX7_turn_131 rfl (lv_at hl 1 rfl) ?_
              refine lv_iload hx hb dX7_turn_132 (lv_at hl 3 rfl) ?_
              refine lv_icmp_eq (tgt := 224) hx hb dX7_turn_134 (by decide) (fun c_134 => ?_) (fun c_134 => ?_)
              · have hm := hm.1 c_134
                exact b224  S _ _ _ hm hP hS (lv_sub hl [0] rfl)
              · have hm := hm.2 c_134
                exact b137 x2 x6 S _ _ _ hm hP hS (lv_sub hl [0, 1, 2, 3, 4] rfl)
      refine lv_iload hx hb dX7_turn_111 (lv_at hl 2 rfl) ?_
      refine lv_istore_n (lv' := [(2, .int x5), (0, .ref (a 61)), (3, .long x3), (5, .int x5)]) hx hb dX7_turn_113 rfl hl (by decide) rfl (fun ls hl => ?_)
      refine lv_iconst (v := (0 : Int32)) hx hb dX7_turn_114 (by decide) ?_
      refine lv_istore (lv' := [(6, .int (0 : Int32)), (2, .int x5), (0, .ref (a 61)), (3, .long x3), (5, .int x5)]) hx hb dX7_turn_115 hl (by decide) rfl (fun ls hl => ?_)
      obtain ⟨n117, hm⟩ := hm
      exact L117 x3 x5 n117 x5 (0 : Int32) S _ _ _ hm hP hS (lv_sub hl [2, 1, 3, 4, 0] rfl)
    have L47 : ∀ (x5 : Int32) (n : Nat) (x2 : Int32) (x3 : Int64) (x6 : Int32) (S : ZS) (H : Heap) (locs : List Loc) (ls : Array Slot), zn (X7_turn_L47 x5 Q) n (x2, x3, x6, S) → va_P D vwCl (zWS k a S) H → va_S (zA a s.heap.size) s.heap H locs → lv_has ls 9 [(0, .ref (a 61)), (2, .int x2), (3, .long x3), (5, .int x5), (6, .int x6)] → zWv p l e (headSpec wsX7_turn rm_X7_turn).room s m ([.ref (a 61), .int y1] : List Value) below meth c D k a Q H locs (F0 m 47 ls []) := by
      intro x5 n
      induction n with
      | zero =>
        intro x2 x3 x6 S H locs ls hm
        exact hm.elim
      | succ n ih47 =>
        intro x2 x3 x6 S H locs ls hm hP hS hl
        have hm : X7_turn_B47 x5 x2 x3 x6 S Q (zn (X7_turn_L47 x5 Q) n) := hm
        generalize zn (X7_turn_L47 x5 Q) n = k47 at hm ih47
        unfold X7_turn_B47 at hm
        have b67 : ∀ (x2 : Int32) (x3 : Int64) (x6 : Int32) (S : ZS) (H : Heap) (locs : List Loc) (ls : Array Slot), X7_turn_b67 x2 x3 x5 x6 S Q k47 → va_P D vwCl (zWS k a S) H → va_S (zA a s.heap.size) s.heap H locs → lv_has ls 9 [(0, .ref (a 61)), (2, .int x2), (3, .long x3), (5, .int x5), (6, .int x6)] → zWv p l e (headSpec wsX7_turn rm_X7_turn).room s m ([.ref (a 61), .int y1] : List Value) below meth c D k a Q H locs (F0 m 67 ls []) := by
          intro x2 x3 x6 S H locs ls hm hP hS hl
          unfold X7_turn_b67 at hm
          have b92 : ∀ (x2 : Int32) (x6 : Int32) (t0 : Int64) (S : ZS) (H : Heap) (locs : List Loc) (ls : Array Slot), X7_turn_b92 x2 x5 x6 t0 S Q k47 → va_P D vwCl (zWS k a S) H → va_S (zA a s.heap.size) s.heap H locs → lv_has ls 9 [(0, .ref (a 61)), (2, .int x2), (5, .int x5), (6, .int x6)] → zWv p l e (headSpec wsX7_turn rm_X7_turn).room s m ([.ref (a 61), .int y1] : List Value) below meth c D k a Q H locs (F0 m 92 ls [.long t0]) := by
            intro x2 x6 t0 S H locs ls hm hP hS hl
            unfold X7_turn_b92 at hm
            refine lv_lstore_n (lv' := [(3, .long t0), (0, .ref (a 61)), (2, .int x2), (5, .int x5), (6, .int x6)]) hx hb dX7_turn_92 rfl hl (by decide) rfl (fun ls hl => ?_)
            refine lv_aload_n hx hb dX7_turn_93 rfl (lv_at hl 1 rfl) ?_
            refine zg_7_edgeFrom hx hb hts i7 hown hK hP (hts _ (List.mem_of_getElem? (i := 3) rfl)) dX7_turn_94 ?_
            refine lv_aload_n hx hb dX7_turn_97 rfl (lv_at hl 1 rfl) ?_
            refine zg_7_by hx hb hts i7 hown hK hP (hts _ (List.mem_of_getElem? (i := 4) rfl)) dX7_turn_98 ?_
            refine lv_iload_n hx hb dX7_turn_101 rfl (lv_at hl 2 rfl) ?_
            obtain ⟨h_102, hm⟩ := hm
            refine z_iald hx hb hK hP zI_80 h_102 dX7_turn_102 ?_
            obtain ⟨h_103, hm⟩ := hm
            refine z_iald hx hb hK hP zI_75 h_103 dX7_turn_103 ?_
            refine lv_topi (fun x2_104 ex2_104 => ?_)
            have hm := hm x2_104 ex2_104
            refine lv_istore_n (lv' := [(2, .int x2_104), (3, .long t0), (0, .ref (a 61)), (5, .int x5), (6, .int x6)]) hx hb dX7_turn_104 rfl hl (by decide) rfl (fun ls hl => ?_)
            obtain ⟨x6_105, ex6_105⟩ : ∃ y : Int32, y = x6 + (1 : Int32) := ⟨_, rfl⟩
            have hm := hm x6_105 ex6_105
            refine lv_iinc (v := x6_105) (lv' := [(6, .int x6_105), (2, .int x2_104), (3, .long t0), (0, .ref (a 61)), (5, .int x5)]) hx hb dX7_turn_105 hl (k := 4) rfl (by rw [ex6_105]; rfl) (by decide) rfl (fun ls hl => ?_)
            refine lv_goto (tgt := 47) hx hb dX7_turn_108 (by decide) ?_
            exact ih47 x2_104 t0 x6_105 S _ _ _ hm hP hS (lv_sub hl [3, 1, 2, 4, 0] rfl)
          refine lv_aload_n hx hb dX7_turn_67 rfl (lv_at hl 0 rfl) ?_
          refine lv_aload_n hx hb dX7_turn_68 rfl (lv_at hl 0 rfl) ?_
          refine zg_7_by hx hb hts i7 hown hK hP (hts _ (List.mem_of_getElem? (i := 4) rfl)) dX7_turn_69 ?_
          refine lv_iload_n hx hb dX7_turn_72 rfl (lv_at hl 1 rfl) ?_
          obtain ⟨h_73, hm⟩ := hm
          refine z_iald hx hb hK hP zI_80 h_73 dX7_turn_73 ?_
          refine z_cVl (As := [.int (S.1 80 (x2).toNatClampNeg)]) (rest := []) hF hK hP hS zO_61 rfl rfl (c_X7_roomOf l D k a hj (S.1 80 (x2).toNatClampNeg) S _ hm _) (cwV 1 hts gX7_turn_X7_roomOf rfl rfl rfl (by decide +kernel) ⟨Nat.le_of_ble_eq_true rfl, Nat.le_of_ble_eq_true rfl⟩) rfl hl.1 rfl (Nat.le_of_ble_eq_true rfl) dX7_turn_74 ⟨Nat.zero_le _, Nat.zero_le _⟩ (fun r_74 S_74 H locs hm hP hS => ?_)
          refine lv_lstore (lv' := [(7, .long r_74), (0, .ref (a 61)), (2, .int x2), (3, .long x3), (5, .int x5), (6, .int x6)]) hx hb dX7_turn_77 hl (by decide) rfl (fun ls hl => ?_)
          refine lv_lload hx hb dX7_turn_79 (lv_at hl 0 rfl) ?_
          refine lv_lload_n hx hb dX7_turn_81 rfl (lv_at hl 3 rfl) ?_
          refine W.lcmp hx hb dX7_turn_82 ?_
          refine lv_if_ge (tgt := 91) hx hb dX7_turn_83 (by decide) (fun c_83 => ?_) (fun c_83 => ?_)
          · have hm := hm.1 c_83
            refine lv_lload_n hx hb dX7_turn_91 rfl (lv_at hl 3 rfl) ?_
            exact b92 x2 x6 x3 S_74 _ _ _ hm hP hS (lv_sub hl [1, 2, 4, 5] rfl)
          · have hm := hm.2 c_83
            refine lv_lload hx hb dX7_turn_86 (lv_at hl 0 rfl) ?_
            refine lv_goto (tgt := 92) hx hb dX7_turn_88 (by decide) ?_
            exact b92 x2 x6 r_74 S_74 _ _ _ hm hP hS (lv_sub hl [1, 2, 4, 5] rfl)
        refine lv_iload hx hb dX7_turn_47 (lv_at hl 4 rfl) ?_
        refine lv_aload_n hx hb dX7_turn_49 rfl (lv_at hl 0 rfl) ?_
        refine zg_7_rows hx hb hts i7 hown hK hP (hts _ (List.mem_of_getElem? (i := 2) rfl)) dX7_turn_50 ?_
        refine lv_icmp_gt (tgt := 111) hx hb dX7_turn_53 (by decide) (fun c_53 => ?_) (fun c_53 => ?_)
        · have hm := hm.1 c_53
          exact b111 x3 x5 S _ _ _ hm hP hS (lv_sub hl [0, 2, 3] rfl)
        · have hm := hm.2 c_53
          refine lv_iload hx hb dX7_turn_56 (lv_at hl 4 rfl) ?_
          refine lv_if_eq (tgt := 67) hx hb dX7_turn_58 (by decide) (fun c_58 => ?_) (fun c_58 => ?_)
          · have hm := hm.1 c_58
            exact b67 x2 x3 x6 S _ _ _ hm hP hS (lv_sub hl [0, 1, 2, 3, 4] rfl)
          · have hm := hm.2 c_58
            refine lv_iload_n hx hb dX7_turn_61 rfl (lv_at hl 1 rfl) ?_
            refine lv_iload hx hb dX7_turn_62 (lv_at hl 3 rfl) ?_
            refine lv_icmp_eq (tgt := 111) hx hb dX7_turn_64 (by decide) (fun c_64 => ?_) (fun c_64 => ?_)
            · have hm := hm.1 c_64
              exact b111 x3 x5 S _ _ _ hm hP hS (lv_sub hl [0, 2, 3] rfl)
            · have hm := hm.2 c_64
              exact b67 x2 x3 x6 S _ _ _ hm hP hS (lv_sub hl [0, 1, 2, 3, 4] rfl)
    refine lv_ldc2 (v := (1000000000000 : Int64)) hx hb hown (hts _ (List.mem_of_getElem? (i := 5) rfl)) dX7_turn_37 ?_
    refine lv_lstore_n (lv' := [(3, .long (1000000000000 : Int64)), (0, .ref (a 61)), (2, .int x2)]) hx hb dX7_turn_40 rfl hl (by decide) rfl (fun ls hl => ?_)
    refine lv_iload_n hx hb dX7_turn_41 rfl (lv_at hl 2 rfl) ?_
    refine lv_istore (lv' := [(5, .int x2), (3, .long (1000000000000 : Int64)), (0, .ref (a 61)), (2, .int x2)]) hx hb dX7_turn_42 hl (by decide) rfl (fun ls hl => ?_)
    refine lv_iconst (v := (0 : Int32)) hx hb dX7_turn_44 (by decide) ?_
    refine lv_istore (lv' := [(6, .int (0 : Int32)), (5, .int x2), (3, .long (1000000000000 : Int64)), (0, .ref (a 61)), (2, .int x2)]) hx hb dX7_turn_45 hl (by decide) rfl (fun ls hl => ?_)
    obtain ⟨n47, hm⟩ := hm
    exact L47 x2 n47 x2 (1000000000000 : Int64) (0 : Int32) S _ _ _ hm hP hS (lv_sub hl [3, 4, 2, 1, 0] rfl)
  have L9 : ∀ (n : Nat) (x2 : Int32) (x3 : Int32) (S : ZS) (H : Heap) (locs : List Loc) (ls : Array Slot), zn (X7_turn_L9 Q) n (x2, x3, S) → va_P D vwCl (zWS k a S) H → va_S (zA a s.heap.size) s.heap H locs → lv_has ls 9 [(0, .ref (a 61)), (2, .int x2), (3, .int x3)] → zWv p l e (headSpec wsX7_turn rm_X7_turn).room s m ([.ref (a 61), .int y1] : List Value) below meth c D k a Q H locs (F0 m 9 ls []) := by
    intro n
    induction n with
    | zero =>
      intro x2 x3 S H locs ls hm
      exact hm.elim
    | succ n ih9 =>
      intro x2 x3 S H locs ls hm hP hS hl
      have hm : X7_turn_B9 x2 x3 S Q (zn (X7_turn_L9 Q) n) := hm
      generalize zn (X7_turn_L9 Q) n = k9 at hm ih9
      unfold X7_turn_B9 at hm
      refine lv_iload_n hx hb dX7_turn_9 rfl (lv_at hl 2 rfl) ?_
      refine lv_aload_n hx hb dX7_turn_10 rfl (lv_at hl 0 rfl) ?_
      refine zg_7_rows hx hb hts i7 hown hK hP (hts _ (List.mem_of_getElem? (i := 2) rfl)) dX7_turn_11 ?_
      refine lv_iconst (v := (1 : Int32)) hx hb dX7_turn_14 (by decide) ?_
      refine lv_iadd hx hb dX7_turn_15 ?_
      refine lv_icmp_gt (tgt := 37) hx hb dX7_turn_16 (by decide) (fun c_16 => ?_) (fun c_16 => ?_)
      · have hm := hm.1 c_16
        exact b37 x2 S _ _ _ hm hP hS (lv_sub hl [0, 1] rfl)
      · have hm := hm.2 c_16
        refine lv_aload_n hx hb dX7_turn_19 rfl (lv_at hl 0 rfl) ?_
        refine zg_7_edgeFrom hx hb hts i7 hown hK hP (hts _ (List.mem_of_getElem? (i := 3) rfl)) dX7_turn_20 ?_
        refine lv_aload_n hx hb dX7_turn_23 rfl (lv_at hl 0 rfl) ?_
        refine zg_7_by hx hb hts i7 hown hK hP (hts _ (List.mem_of_getElem? (i := 4) rfl)) dX7_turn_24 ?_
        refine lv_iload_n hx hb dX7_turn_27 rfl (lv_at hl 1 rfl) ?_
        obtain ⟨h_28, hm⟩ := hm
        refine z_iald hx hb hK hP zI_80 h_28 dX7_turn_28 ?_
        obtain ⟨h_29, hm⟩ := hm
        refine z_iald hx hb hK hP zI_75 h_29 dX7_turn_29 ?_
        refine lv_topi (fun x2_30 ex2_30 => ?_)
        have hm := hm x2_30 ex2_30
        refine lv_istore_n (lv' := [(2, .int x2_30), (0, .ref (a 61)), (3, .int x3)]) hx hb dX7_turn_30 rfl hl (by decide) rfl (fun ls hl => ?_)
        obtain ⟨x3_31, ex3_31⟩ : ∃ y : Int32, y = x3 + (1 : Int32) := ⟨_, rfl⟩
        have hm := hm x3_31 ex3_31
        refine lv_iinc (v := x3_31) (lv' := [(3, .int x3_31), (2, .int x2_30), (0, .ref (a 61))]) hx hb dX7_turn_31 hl (k := 2) rfl (by rw [ex3_31]; rfl) (by decide) rfl (fun ls hl => ?_)
        refine lv_goto (tgt := 9) hx hb dX7_turn_34 (by decide) ?_
        exact ih9 x2_30 x3_31 S _ _ _ hm hP hS (lv_sub hl [2, 1, 0] rfl)
  unfold X7_turn at hm
  refine lv_aload_n hx hb dX7_turn_0 rfl (lv_at hl 0 rfl) ?_
  refine zg_7_edgeTo hx hb hts i7 hown hK hP (hts _ (List.mem_of_getElem? (i := 1) rfl)) dX7_turn_1 ?_
  refine lv_iload_n hx hb dX7_turn_4 rfl (lv_at hl 1 rfl) ?_
  obtain ⟨h_5, hm⟩ := hm
  refine z_iald hx hb hK hP zI_76 h_5 dX7_turn_5 ?_
  refine lv_topi (fun x2_6 ex2_6 => ?_)
  have hm := hm x2_6 ex2_6
  refine lv_istore_n (lv' := [(2, .int x2_6), (0, .ref (a 61)), (1, .int y1)]) hx hb dX7_turn_6 rfl hl (by decide) rfl (fun ls hl => ?_)
  refine lv_iconst (v := (0 : Int32)) hx hb dX7_turn_7 (by decide) ?_
  refine lv_istore_n (lv' := [(3, .int (0 : Int32)), (2, .int x2_6), (0, .ref (a 61)), (1, .int y1)]) hx hb dX7_turn_8 rfl hl (by decide) rfl (fun ls hl => ?_)
  obtain ⟨n9, hm⟩ := hm
  exact L9 n9 x2_6 (0 : Int32) S _ _ _ hm hP hS (lv_sub hl [2, 1, 0] rfl)

abbrev rm_X7_nothingFar : Room := { frames := 0, cells := 0, slots := 0, locals := 0 }
def X7_nothingFar_b28 (S : ZS) (Q : ZS → Prop) : Prop :=
  Q S
def X7_nothingFar_B2 (x1 : Int32) (S : ZS) (Q : ZS → Prop) (k2 : Int32 × ZS → Prop) : Prop :=
  ((9 : Int32) ≤ x1 → X7_nothingFar_b28 S Q) ∧ (¬ (9 : Int32) ≤ x1 → vp_in x1 9 ∧ ∀ S_14 : ZS, S_14 = zw S 79 (x1).toNatClampNeg (0 : Int64) → vp_in x1 9 ∧ ∀ S_21 : ZS, S_21 = zu S_14 80 (x1).toNatClampNeg (0 : Int32) → ∀ x1_22 : Int32, x1_22 = x1 + (1 : Int32) → k2 (x1_22, S_21))
def X7_nothingFar_L2 (Q : ZS → Prop) : (Int32 × ZS) → ((Int32 × ZS) → Prop) → Prop := fun st k2 => X7_nothingFar_B2 st.1 st.2 Q k2
def X7_nothingFar (S : ZS) (Q : ZS → Prop) : Prop :=
  zl (X7_nothingFar_L2 Q) ((0 : Int32), S)
set_option maxHeartbeats 4000000 in
set_option maxRecDepth 100000 in
theorem c_X7_nothingFar (l : Launch) (D : va_G) (k : Nat → ClassId) (a : Nat → Nat) (hj : zDj a) (S : ZS) (Q : ZS → Prop) (hm : X7_nothingFar S Q) (sz : Nat) : Met l yX7_nothingFar wsX7_nothingFar rm_X7_nothingFar (zPc D k a [.ref (a 61)] S sz) (va_Qv Q (zB D k a) (zA a sz)) 0 0 (zA a sz) := by
  refine Met.ofW (cc := cX7_nothingFar) (maxL := 2) (ret := none) (by decide) rfl ?_
  intro p e s m args below meth c s₁ B hml hv
  obtain ⟨rfl, hsz, hP, hK⟩ := hv
  have hx := B.exec
  have hb := B.bytes
  have hr := B.returns
  have hts := atoms_spec (ws := wsX7_nothingFar) B.pre
  have hown : s.vm.findClass RX7 = some m.cls := findClass_of_methodNamed B.named
  have hlocks := B.notSynchronized
  subst hsz
  have hS : va_S (zA a s.heap.size) s.heap s.heap [] := va_S.rf
  have hF : CallFix p m c cX7_nothingFar 2 s _ wsX7_nothingFar RX7 := ⟨hx, hb, hml, hown, hts⟩
  have i7 : ∀ w ∈ wsX70, w ∈ wsX7_nothingFar := fun _ h => (List.mem_cons_of_mem _ (List.mem_append_right _ h))
  have hl := lv_entry ([.ref (a 61)]) (n := 2) (Nat.le_of_ble_eq_true rfl)
  rw [lg_entry_eq]
  generalize (lg_sl ([.ref (a 61)]) ++ List.replicate (2 - (lg_sl ([.ref (a 61)])).length) Slot.unset).toArray = ls at hl ⊢
  have hl : lv_has ls 2 [(0, .ref (a 61))] := hl
  have b28 : ∀ (S : ZS) (H : Heap) (locs : List Loc) (ls : Array Slot), X7_nothingFar_b28 S Q → va_P D vwCl (zWS k a S) H → va_S (zA a s.heap.size) s.heap H locs → lv_has ls 2 [(0, .ref (a 61))] → zWv p l e (headSpec wsX7_nothingFar rm_X7_nothingFar).room s m ([.ref (a 61)] : List Value) below meth c D k a Q H locs (F0 m 28 ls []) := by
    intro S H locs ls hm hP hS hl
    unfold X7_nothingFar_b28 at hm
    exact z_retv hx hb hr hlocks hP hS hm dX7_nothingFar_28
  have L2 : ∀ (n : Nat) (x1 : Int32) (S : ZS) (H : Heap) (locs : List Loc) (ls : Array Slot), zn (X7_nothingFar_L2 Q) n (x1, S) → va_P D vwCl (zWS k a S) H → va_S (zA a s.heap.size) s.heap H locs → lv_has ls 2 [(0, .ref (a 61)), (1, .int x1)] → zWv p l e (headSpec wsX7_nothingFar rm_X7_nothingFar).room s m ([.ref (a 61)] : List Value) below meth c D k a Q H locs (F0 m 2 ls []) := by
    intro n
    induction n with
    | zero =>
      intro x1 S H locs ls hm
      exact hm.elim
    | succ n ih2 =>
      intro x1 S H locs ls hm hP hS hl
      have hm : X7_nothingFar_B2 x1 S Q (zn (X7_nothingFar_L2 Q) n) := hm
      generalize zn (X7_nothingFar_L2 Q) n = k2 at hm ih2
      unfold X7_nothingFar_B2 at hm
      refine lv_iload_n hx hb dX7_nothingFar_2 rfl (lv_at hl 1 rfl) ?_
      refine lv_bipush (v := (9 : Int32)) hx hb dX7_nothingFar_3 (by decide) ?_
      refine lv_icmp_ge (tgt := 28) hx hb dX7_nothingFar_5 (by decide) (fun c_5 => ?_) (fun c_5 => ?_)
      · have hm := hm.1 c_5
        exact b28  S _ _ _ hm hP hS (lv_sub hl [0] rfl)
      · have hm := hm.2 c_5
        refine lv_aload_n hx hb dX7_nothingFar_8 rfl (lv_at hl 0 rfl) ?_
        refine zg_7_far hx hb hts i7 hown hK hP (hts _ (List.mem_of_getElem? (i := 1) rfl)) dX7_nothingFar_9 ?_
        refine lv_iload_n hx hb dX7_nothingFar_12 rfl (lv_at hl 1 rfl) ?_
        refine lv_lconst (v := (0 : Int64)) hx hb dX7_nothingFar_13 (by decide) ?_
        obtain ⟨h_14, hm⟩ := hm
        refine z_last hx hb hj hK hP hS zJ_79 h_14 dX7_nothingFar_14 (fun H locs hP hS => ?_)
        obtain ⟨S_14, eS_14⟩ : ∃ z : ZS, z = zw S 79 (x1).toNatClampNeg (0 : Int64) := ⟨_, rfl⟩
        rw [← eS_14] at hP
        have hm := hm S_14 eS_14
        refine lv_aload_n hx hb dX7_nothingFar_15 rfl (lv_at hl 0 rfl) ?_
        refine zg_7_by hx hb hts i7 hown hK hP (hts _ (List.mem_of_getElem? (i := 2) rfl)) dX7_nothingFar_16 ?_
        refine lv_iload_n hx hb dX7_nothingFar_19 rfl (lv_at hl 1 rfl) ?_
        refine lv_iconst (v := (0 : Int32)) hx hb dX7_nothingFar_20 (by decide) ?_
        obtain ⟨h_21, hm⟩ := hm
        refine z_iast hx hb hj hK hP hS zI_80 h_21 dX7_nothingFar_21 (fun H locs hP hS => ?_)
        obtain ⟨S_21, eS_21⟩ : ∃ z : ZS, z = zu S_14 80 (x1).toNatClampNeg (0 : Int32) := ⟨_, rfl⟩
        rw [← eS_21] at hP
        have hm := hm S_21 eS_21
        obtain ⟨x1_22, ex1_22⟩ : ∃ y : Int32, y = x1 + (1 : Int32) := ⟨_, rfl⟩
        have hm := hm x1_22 ex1_22
        refine lv_iinc (v := x1_22) (lv' := [(1, .int x1_22), (0, .ref (a 61))]) hx hb dX7_nothingFar_22 hl (k := 1) rfl (by rw [ex1_22]; rfl) (by decide) rfl (fun ls hl => ?_)
        refine lv_goto (tgt := 2) hx hb dX7_nothingFar_25 (by decide) ?_
        exact ih2 x1_22 S_21 _ _ _ hm hP hS (lv_sub hl [1, 0] rfl)
  unfold X7_nothingFar at hm
  refine lv_iconst (v := (0 : Int32)) hx hb dX7_nothingFar_0 (by decide) ?_
  refine lv_istore_n (lv' := [(1, .int (0 : Int32)), (0, .ref (a 61))]) hx hb dX7_nothingFar_1 rfl hl (by decide) rfl (fun ls hl => ?_)
  obtain ⟨n2, hm⟩ := hm
  exact L2 n2 (0 : Int32) S _ _ _ hm hP hS (lv_sub hl [1, 0] rfl)

abbrev rm_X7_improve : Room := { frames := 4, cells := 0, slots := 0, locals := 96 }
def X7_improve_b53 (S : ZS) (Q : ZS → Prop) : Prop :=
  Q S
def X7_improve_b47 (x1 : Int32) (x2 : Int32) (S : ZS) (Q : ZS → Prop) (k4 : Int32 × Int32 × ZS → Prop) : Prop :=
  ∀ x2_47 : Int32, x2_47 = x2 + (1 : Int32) → k4 (x1, x2_47, S)
def X7_improve_b37 (x2 : Int32) (x3 : Int32) (t0 : Int32) (S : ZS) (Q : ZS → Prop) (k4 : Int32 × Int32 × ZS → Prop) : Prop :=
  (t0 = 0 → X7_improve_b47 t0 x2 S Q k4) ∧ (¬ t0 = 0 → X7_turn x3 S (fun S_44 => X7_improve_b47 t0 x2 S_44 Q k4))
def X7_improve_B4 (x1 : Int32) (x2 : Int32) (S : ZS) (Q : ZS → Prop) (k4 : Int32 × Int32 × ZS → Prop) : Prop :=
  ((10000000 : Int32) ≤ x2 → X7_improve_b53 S Q) ∧ (¬ (10000000 : Int32) ≤ x2 → (x1 = 0 → X7_improve_b53 S Q) ∧ (¬ x1 = 0 → X7_findEdges S (fun S_15 => X7_nothingFar S_15 (fun S_19 => X7_spread S_19 (fun r_23 S_23 => (r_23 = (-1 : Int32) → X7_improve_b37 x2 r_23 (0 : Int32) S_23 Q k4) ∧ (¬ r_23 = (-1 : Int32) → X7_improve_b37 x2 r_23 (1 : Int32) S_23 Q k4))))))
def X7_improve_L4 (Q : ZS → Prop) : (Int32 × Int32 × ZS) → ((Int32 × Int32 × ZS) → Prop) → Prop := fun st k4 => X7_improve_B4 st.1 st.2.1 st.2.2 Q k4
def X7_improve (S : ZS) (Q : ZS → Prop) : Prop :=
  zl (X7_improve_L4 Q) ((1 : Int32), (0 : Int32), S)
set_option maxHeartbeats 4000000 in
set_option maxRecDepth 100000 in
theorem c_X7_improve (l : Launch) (D : va_G) (k : Nat → ClassId) (a : Nat → Nat) (hj : zDj a) (S : ZS) (Q : ZS → Prop) (hm : X7_improve S Q) (sz : Nat) : Met l yX7_improve wsX7_improve rm_X7_improve (zPc D k a [.ref (a 61)] S sz) (va_Qv Q (zB D k a) (zA a sz)) 0 0 (zA a sz) := by
  refine Met.ofW (cc := cX7_improve) (maxL := 4) (ret := none) (by decide) rfl ?_
  intro p e s m args below meth c s₁ B hml hv
  obtain ⟨rfl, hsz, hP, hK⟩ := hv
  have hx := B.exec
  have hb := B.bytes
  have hr := B.returns
  have hts := atoms_spec (ws := wsX7_improve) B.pre
  have hown : s.vm.findClass RX7 = some m.cls := findClass_of_methodNamed B.named
  have hlocks := B.notSynchronized
  subst hsz
  have hS : va_S (zA a s.heap.size) s.heap s.heap [] := va_S.rf
  have hF : CallFix p m c cX7_improve 4 s _ wsX7_improve RX7 := ⟨hx, hb, hml, hown, hts⟩
  have hl := lv_entry ([.ref (a 61)]) (n := 4) (Nat.le_of_ble_eq_true rfl)
  rw [lg_entry_eq]
  generalize (lg_sl ([.ref (a 61)]) ++ List.replicate (4 - (lg_sl ([.ref (a 61)])).length) Slot.unset).toArray = ls at hl ⊢
  have hl : lv_has ls 4 [(0, .ref (a 61))] := hl
  have b53 : ∀ (S : ZS) (H : Heap) (locs : List Loc) (ls : Array Slot), X7_improve_b53 S Q → va_P D vwCl (zWS k a S) H → va_S (zA a s.heap.size) s.heap H locs → lv_has ls 4 [(0, .ref (a 61))] → zWv p l e (headSpec wsX7_improve rm_X7_improve).room s m ([.ref (a 61)] : List Value) below meth c D k a Q H locs (F0 m 53 ls []) := by
    intro S H locs ls hm hP hS hl
    unfold X7_improve_b53 at hm
    exact z_retv hx hb hr hlocks hP hS hm dX7_improve_53
  have L4 : ∀ (n : Nat) (x1 : Int32) (x2 : Int32) (S : ZS) (H : Heap) (locs : List Loc) (ls : Array Slot), zn (X7_improve_L4 Q) n (x1, x2, S) → va_P D vwCl (zWS k a S) H → va_S (zA a s.heap.size) s.heap H locs → lv_has ls 4 [(0, .ref (a 61)), (1, .int x1), (2, .int x2)] → zWv p l e (headSpec wsX7_improve rm_X7_improve).room s m ([.ref (a 61)] : List Value) below meth c D k a Q H locs (F0 m 4 ls []) := by
    intro n
    induction n with
    | zero =>
      intro x1 x2 S H locs ls hm
      exact hm.elim
    | succ n ih4 =>
      intro x1 x2 S H locs ls hm hP hS hl
      have hm : X7_improve_B4 x1 x2 S Q (zn (X7_improve_L4 Q) n) := hm
      generalize zn (X7_improve_L4 Q) n = k4 at hm ih4
      unfold X7_improve_B4 at hm
      have b37 : ∀ (x2 : Int32) (x3 : Int32) (t0 : Int32) (S : ZS) (H : Heap) (locs : List Loc) (ls : Array Slot), X7_improve_b37 x2 x3 t0 S Q k4 → va_P D vwCl (zWS k a S) H → va_S (zA a s.heap.size) s.heap H locs → lv_has ls 4 [(0, .ref (a 61)), (2, .int x2), (3, .int x3)] → zWv p l e (headSpec wsX7_improve rm_X7_improve).room s m ([.ref (a 61)] : List Value) below meth c D k a Q H locs (F0 m 37 ls [.int t0]) := by
        intro x2 x3 t0 S H locs ls hm hP hS hl
        unfold X7_improve_b37 at hm
        have b47 : ∀ (x1 : Int32) (x2 : Int32) (S : ZS) (H : Heap) (locs : List Loc) (ls : Array Slot), X7_improve_b47 x1 x2 S Q k4 → va_P D vwCl (zWS k a S) H → va_S (zA a s.heap.size) s.heap H locs → lv_has ls 4 [(0, .ref (a 61)), (1, .int x1), (2, .int x2)] → zWv p l e (headSpec wsX7_improve rm_X7_improve).room s m ([.ref (a 61)] : List Value) below meth c D k a Q H locs (F0 m 47 ls []) := by
          intro x1 x2 S H locs ls hm hP hS hl
          unfold X7_improve_b47 at hm
          obtain ⟨x2_47, ex2_47⟩ : ∃ y : Int32, y = x2 + (1 : Int32) := ⟨_, rfl⟩
          have hm := hm x2_47 ex2_47
          refine lv_iinc (v := x2_47) (lv' := [(2, .int x2_47), (0, .ref (a 61)), (1, .int x1)]) hx hb dX7_improve_47 hl (k := 2) rfl (by rw [ex2_47]; rfl) (by decide) rfl (fun ls hl => ?_)
          refine lv_goto (tgt := 4) hx hb dX7_improve_50 (by decide) ?_
          exact ih4 x1 x2_47 S _ _ _ hm hP hS (lv_sub hl [1, 2, 0] rfl)
        refine lv_istore_n (lv' := [(1, .int t0), (0, .ref (a 61)), (2, .int x2), (3, .int x3)]) hx hb dX7_improve_37 rfl hl (by decide) rfl (fun ls hl => ?_)
        refine lv_iload_n hx hb dX7_improve_38 rfl (lv_at hl 0 rfl) ?_
        refine lv_if_eq (tgt := 47) hx hb dX7_improve_39 (by decide) (fun c_39 => ?_) (fun c_39 => ?_)
        · have hm := hm.1 c_39
          exact b47 t0 x2 S _ _ _ hm hP hS (lv_sub hl [1, 0, 2] rfl)
        · have hm := hm.2 c_39
          refine lv_aload_n hx hb dX7_improve_42 rfl (lv_at hl 1 rfl) ?_
          refine lv_iload_n hx hb dX7_improve_43 rfl (lv_at hl 3 rfl) ?_
          refine z_cVv (As := [.int x3]) (rest := []) hF hK hP hS zO_61 rfl rfl (c_X7_turn l D k a hj x3 S _ hm _) (cwV 1 hts gX7_improve_X7_turn rfl rfl rfl (by decide +kernel) ⟨Nat.le_of_ble_eq_true rfl, Nat.le_of_ble_eq_true rfl⟩) rfl hl.1 rfl (Nat.le_of_ble_eq_true rfl) dX7_improve_44 ⟨Nat.zero_le _, Nat.zero_le _⟩ (fun S_44 H locs hm hP hS => ?_)
          exact b47 t0 x2 S_44 _ _ _ hm hP hS (lv_sub hl [1, 0, 2] rfl)
      refine lv_iload_n hx hb dX7_improve_4 rfl (lv_at hl 2 rfl) ?_
      refine lv_ldc (v := (10000000 : Int32)) hx hb hown (hts _ (List.mem_of_getElem? (i := 1) rfl)) dX7_improve_5 ?_
      refine lv_icmp_ge (tgt := 53) hx hb dX7_improve_7 (by decide) (fun c_7 => ?_) (fun c_7 => ?_)
      · have hm := hm.1 c_7
        exact b53  S _ _ _ hm hP hS (lv_sub hl [0] rfl)
      · have hm := hm.2 c_7
        refine lv_iload_n hx hb dX7_improve_10 rfl (lv_at hl 1 rfl) ?_
        refine lv_if_eq (tgt := 53) hx hb dX7_improve_11 (by decide) (fun c_11 => ?_) (fun c_11 => ?_)
        · have hm := hm.1 c_11
          exact b53  S _ _ _ hm hP hS (lv_sub hl [0] rfl)
        · have hm := hm.2 c_11
          refine lv_aload_n hx hb dX7_improve_14 rfl (lv_at hl 0 rfl) ?_
          refine z_cVv (As := []) (rest := []) hF hK hP hS zO_61 rfl rfl (c_X7_findEdges l D k a hj  S _ hm _) (cwV 0 hts gX7_improve_X7_findEdges rfl rfl rfl (by decide +kernel) ⟨Nat.le_of_ble_eq_true rfl, Nat.le_of_ble_eq_true rfl⟩) rfl hl.1 rfl (Nat.le_of_ble_eq_true rfl) dX7_improve_15 ⟨Nat.zero_le _, Nat.zero_le _⟩ (fun S_15 H locs hm hP hS => ?_)
          refine lv_aload_n hx hb dX7_improve_18 rfl (lv_at hl 0 rfl) ?_
          refine z_cVv (As := []) (rest := []) hF hK hP hS zO_61 rfl rfl (c_X7_nothingFar l D k a hj  S_15 _ hm _) (cwV 0 hts gX7_improve_X7_nothingFar rfl rfl rfl (by decide +kernel) ⟨Nat.le_of_ble_eq_true rfl, Nat.le_of_ble_eq_true rfl⟩) rfl hl.1 rfl (Nat.le_of_ble_eq_true rfl) dX7_improve_19 ⟨Nat.zero_le _, Nat.zero_le _⟩ (fun S_19 H locs hm hP hS => ?_)
          refine lv_aload_n hx hb dX7_improve_22 rfl (lv_at hl 0 rfl) ?_
          refine z_cVi (As := []) (rest := []) hF hK hP hS zO_61 rfl rfl (c_X7_spread l D k a hj  S_19 _ hm _) (cwV 0 hts gX7_improve_X7_spread rfl rfl rfl (by decide +kernel) ⟨Nat.le_of_ble_eq_true rfl, Nat.le_of_ble_eq_true rfl⟩) rfl hl.1 rfl (Nat.le_of_ble_eq_true rfl) dX7_improve_23 ⟨Nat.zero_le _, Nat.zero_le _⟩ (fun r_23 S_23 H locs hm hP hS => ?_)
          refine lv_istore_n (lv' := [(3, .int r_23), (0, .ref (a 61)), (1, .int x1), (2, .int x2)]) hx hb dX7_improve_26 rfl hl (by decide) rfl (fun ls hl => ?_)
          refine lv_iload_n hx hb dX7_improve_27 rfl (lv_at hl 0 rfl) ?_
          refine lv_iconst (v := (-1 : Int32)) hx hb dX7_improve_28 (by decide) ?_
          refine lv_icmp_eq (tgt := 36) hx hb dX7_improve_29 (by decide) (fun c_29 => ?_) (fun c_29 => ?_)
          · have hm := hm.1 c_29
            refine lv_iconst (v := (0 : Int32)) hx hb dX7_improve_36 (by decide) ?_
            exact b37 x2 r_23 (0 : Int32) S_23 _ _ _ hm hP hS (lv_sub hl [1, 3, 0] rfl)
          · have hm := hm.2 c_29
            refine lv_iconst (v := (1 : Int32)) hx hb dX7_improve_32 (by decide) ?_
            refine lv_goto (tgt := 37) hx hb dX7_improve_33 (by decide) ?_
            exact b37 x2 r_23 (1 : Int32) S_23 _ _ _ hm hP hS (lv_sub hl [1, 3, 0] rfl)
  unfold X7_improve at hm
  refine lv_iconst (v := (1 : Int32)) hx hb dX7_improve_0 (by decide) ?_
  refine lv_istore_n (lv' := [(1, .int (1 : Int32)), (0, .ref (a 61))]) hx hb dX7_improve_1 rfl hl (by decide) rfl (fun ls hl => ?_)
  refine lv_iconst (v := (0 : Int32)) hx hb dX7_improve_2 (by decide) ?_
  refine lv_istore_n (lv' := [(2, .int (0 : Int32)), (1, .int (1 : Int32)), (0, .ref (a 61))]) hx hb dX7_improve_3 rfl hl (by decide) rfl (fun ls hl => ?_)
  obtain ⟨n4, hm⟩ := hm
  exact L4 n4 (1 : Int32) (0 : Int32) S _ _ _ hm hP hS (lv_sub hl [2, 1, 0] rfl)

abbrev rm_X7_keepBest : Room := { frames := 2, cells := 0, slots := 0, locals := 46 }
def X7_keepBest_b142 (S : ZS) (Q : ZS → Prop) : Prop :=
  Q S
def X7_keepBest_b135 (x1 : Int32) (t0 : Int32) (t1 : Int32) (S : ZS) (Q : ZS → Prop) (k93 : Int32 × ZS → Prop) : Prop :=
  vp_in t1 8 ∧ ∀ S_135 : ZS, S_135 = zu S 74 (t1).toNatClampNeg t0 → ∀ x1_136 : Int32, x1_136 = x1 + (1 : Int32) → k93 (x1_136, S_135)
def X7_keepBest_B93 (x1 : Int32) (S : ZS) (Q : ZS → Prop) (k93 : Int32 × ZS → Prop) : Prop :=
  ((S.1 61 2) ≤ x1 → X7_keepBest_b142 S Q) ∧ (¬ (S.1 61 2) ≤ x1 → vp_in x1 9 ∧ vp_in (S.1 61 2) 9 ∧ ((lg_cmp (S.2 79 (x1).toNatClampNeg) (S.2 79 ((S.1 61 2)).toNatClampNeg)) = 0 → vp_in x1 8 ∧ X7_keepBest_b135 x1 (S.1 65 (x1).toNatClampNeg) x1 S Q k93) ∧ (¬ (lg_cmp (S.2 79 (x1).toNatClampNeg) (S.2 79 ((S.1 61 2)).toNatClampNeg)) = 0 → X7_keepBest_b135 x1 (1 : Int32) x1 S Q k93))
def X7_keepBest_L93 (Q : ZS → Prop) : (Int32 × ZS) → ((Int32 × ZS) → Prop) → Prop := fun st k93 => X7_keepBest_B93 st.1 st.2 Q k93
def X7_keepBest_b91 (S : ZS) (Q : ZS → Prop) : Prop :=
  zl (X7_keepBest_L93 Q) ((0 : Int32), S)
def X7_keepBest_b85 (x1 : Int32) (S : ZS) (Q : ZS → Prop) (k6 : Int32 × ZS → Prop) : Prop :=
  ∀ x1_85 : Int32, x1_85 = x1 + (1 : Int32) → k6 (x1_85, S)
def X7_keepBest_B6 (x1 : Int32) (S : ZS) (Q : ZS → Prop) (k6 : Int32 × ZS → Prop) : Prop :=
  ((S.1 61 1) ≤ x1 → X7_keepBest_b91 S Q) ∧ (¬ (S.1 61 1) ≤ x1 → vp_in x1 10 ∧ X7_endOf x1 (1 : Int32) S (fun r_28 S_28 => vp_in r_28 9 ∧ X7_endOf x1 (-1 : Int32) S_28 (fun r_40 S_40 => vp_in r_40 9 ∧ ∀ x2_45 : Int64, x2_45 = (((Int32.toInt64 (S.1 64 (x1).toNatClampNeg)) - (S_28.2 79 (r_28).toNatClampNeg)) + (S_40.2 79 (r_40).toNatClampNeg)) → ((lg_cmp x2_45 (0 : Int64)) ≤ 0 → (0 ≤ (lg_cmp x2_45 (0 : Int64)) → X7_keepBest_b85 x1 S_40 Q k6) ∧ (¬ 0 ≤ (lg_cmp x2_45 (0 : Int64)) → vp_in x1 10 ∧ vp_in x1 10 ∧ ∀ S_84 : ZS, S_84 = zu S_40 72 (x1).toNatClampNeg (S_40.1 73 (x1).toNatClampNeg) → X7_keepBest_b85 x1 S_84 Q k6)) ∧ (¬ (lg_cmp x2_45 (0 : Int64)) ≤ 0 → vp_in x1 10 ∧ vp_in x1 10 ∧ ∀ S_63 : ZS, S_63 = zu S_40 73 (x1).toNatClampNeg (S_40.1 72 (x1).toNatClampNeg) → X7_keepBest_b85 x1 S_63 Q k6))))
def X7_keepBest_L6 (Q : ZS → Prop) : (Int32 × ZS) → ((Int32 × ZS) → Prop) → Prop := fun st k6 => X7_keepBest_B6 st.1 st.2 Q k6
def X7_keepBest (S : ZS) (Q : ZS → Prop) : Prop :=
  X7_begin S (fun S_1 => zl (X7_keepBest_L6 Q) ((0 : Int32), S_1))
set_option maxHeartbeats 4000000 in
set_option maxRecDepth 100000 in
theorem c_X7_keepBest (l : Launch) (D : va_G) (k : Nat → ClassId) (a : Nat → Nat) (hj : zDj a) (S : ZS) (Q : ZS → Prop) (hm : X7_keepBest S Q) (sz : Nat) : Met l yX7_keepBest wsX7_keepBest rm_X7_keepBest (zPc D k a [.ref (a 61)] S sz) (va_Qv Q (zB D k a) (zA a sz)) 0 0 (zA a sz) := by
  refine Met.ofW (cc := cX7_keepBest) (maxL := 4) (ret := none) (by decide) rfl ?_
  intro p e s m args below meth c s₁ B hml hv
  obtain ⟨rfl, hsz, hP, hK⟩ := hv
  have hx := B.exec
  have hb := B.bytes
  have hr := B.returns
  have hts := atoms_spec (ws := wsX7_keepBest) B.pre
  have hown : s.vm.findClass RX7 = some m.cls := findClass_of_methodNamed B.named
  have hlocks := B.notSynchronized
  subst hsz
  have hS : va_S (zA a s.heap.size) s.heap s.heap [] := va_S.rf
  have hF : CallFix p m c cX7_keepBest 4 s _ wsX7_keepBest RX7 := ⟨hx, hb, hml, hown, hts⟩
  have i7 : ∀ w ∈ wsX70, w ∈ wsX7_keepBest := fun _ h => (List.mem_cons_of_mem _ (List.mem_append_right _ h))
  have hl := lv_entry ([.ref (a 61)]) (n := 4) (Nat.le_of_ble_eq_true rfl)
  rw [lg_entry_eq]
  generalize (lg_sl ([.ref (a 61)]) ++ List.replicate (4 - (lg_sl ([.ref (a 61)])).length) Slot.unset).toArray = ls at hl ⊢
  have hl : lv_has ls 4 [(0, .ref (a 61))] := hl
  have b91 : ∀ (S : ZS) (H : Heap) (locs : List Loc) (ls : Array Slot), X7_keepBest_b91 S Q → va_P D vwCl (zWS k a S) H → va_S (zA a s.heap.size) s.heap H locs → lv_has ls 4 [(0, .ref (a 61))] → zWv p l e (headSpec wsX7_keepBest rm_X7_keepBest).room s m ([.ref (a 61)] : List Value) below meth c D k a Q H locs (F0 m 91 ls []) := by
    intro S H locs ls hm hP hS hl
    unfold X7_keepBest_b91 at hm
    have b142 : ∀ (S : ZS) (H : Heap) (locs : List Loc) (ls : Array Slot), X7_keepBest_b142 S Q → va_P D vwCl (zWS k a S) H → va_S (zA a s.heap.size) s.heap H locs → lv_has ls 4 [(0, .ref (a 61))] → zWv p l e (headSpec wsX7_keepBest rm_X7_keepBest).room s m ([.ref (a 61)] : List Value) below meth c D k a Q H locs (F0 m 142 ls []) := by
      intro S H locs ls hm hP hS hl
      unfold X7_keepBest_b142 at hm
      exact z_retv hx hb hr hlocks hP hS hm dX7_keepBest_142
    have L93 : ∀ (n : Nat) (x1 : Int32) (S : ZS) (H : Heap) (locs : List Loc) (ls : Array Slot), zn (X7_keepBest_L93 Q) n (x1, S) → va_P D vwCl (zWS k a S) H → va_S (zA a s.heap.size) s.heap H locs → lv_has ls 4 [(0, .ref (a 61)), (1, .int x1)] → zWv p l e (headSpec wsX7_keepBest rm_X7_keepBest).room s m ([.ref (a 61)] : List Value) below meth c D k a Q H locs (F0 m 93 ls []) := by
      intro n
      induction n with
      | zero =>
        intro x1 S H locs ls hm
        exact hm.elim
      | succ n ih93 =>
        intro x1 S H locs ls hm hP hS hl
        have hm : X7_keepBest_B93 x1 S Q (zn (X7_keepBest_L93 Q) n) := hm
        generalize zn (X7_keepBest_L93 Q) n = k93 at hm ih93
        unfold X7_keepBest_B93 at hm
        have b135 : ∀ (x1 : Int32) (t0 : Int32) (t1 : Int32) (S : ZS) (H : Heap) (locs : List Loc) (ls : Array Slot), X7_keepBest_b135 x1 t0 t1 S Q k93 → va_P D vwCl (zWS k a S) H → va_S (zA a s.heap.size) s.heap H locs → lv_has ls 4 [(0, .ref (a 61)), (1, .int x1)] → zWv p l e (headSpec wsX7_keepBest rm_X7_keepBest).room s m ([.ref (a 61)] : List Value) below meth c D k a Q H locs (F0 m 135 ls [.int t0, .int t1, .ref (a 74)]) := by
          intro x1 t0 t1 S H locs ls hm hP hS hl
          unfold X7_keepBest_b135 at hm
          obtain ⟨h_135, hm⟩ := hm
          refine z_iast hx hb hj hK hP hS zI_74 h_135 dX7_keepBest_135 (fun H locs hP hS => ?_)
          obtain ⟨S_135, eS_135⟩ : ∃ z : ZS, z = zu S 74 (t1).toNatClampNeg t0 := ⟨_, rfl⟩
          rw [← eS_135] at hP
          have hm := hm S_135 eS_135
          obtain ⟨x1_136, ex1_136⟩ : ∃ y : Int32, y = x1 + (1 : Int32) := ⟨_, rfl⟩
          have hm := hm x1_136 ex1_136
          refine lv_iinc (v := x1_136) (lv' := [(1, .int x1_136), (0, .ref (a 61))]) hx hb dX7_keepBest_136 hl (k := 1) rfl (by rw [ex1_136]; rfl) (by decide) rfl (fun ls hl => ?_)
          refine lv_goto (tgt := 93) hx hb dX7_keepBest_139 (by decide) ?_
          exact ih93 x1_136 S_135 _ _ _ hm hP hS (lv_sub hl [1, 0] rfl)
        refine lv_iload_n hx hb dX7_keepBest_93 rfl (lv_at hl 1 rfl) ?_
        refine lv_aload_n hx hb dX7_keepBest_94 rfl (lv_at hl 0 rfl) ?_
        refine zg_7_rows hx hb hts i7 hown hK hP (hts _ (List.mem_of_getElem? (i := 6) rfl)) dX7_keepBest_95 ?_
        refine lv_icmp_ge (tgt := 142) hx hb dX7_keepBest_98 (by decide) (fun c_98 => ?_) (fun c_98 => ?_)
        · have hm := hm.1 c_98
          exact b142  S _ _ _ hm hP hS (lv_sub hl [0] rfl)
        · have hm := hm.2 c_98
          refine lv_aload_n hx hb dX7_keepBest_101 rfl (lv_at hl 0 rfl) ?_
          refine zg_7_kind hx hb hts i7 hown hK hP (hts _ (List.mem_of_getElem? (i := 7) rfl)) dX7_keepBest_102 ?_
          refine lv_iload_n hx hb dX7_keepBest_105 rfl (lv_at hl 1 rfl) ?_
          refine lv_aload_n hx hb dX7_keepBest_106 rfl (lv_at hl 0 rfl) ?_
          refine zg_7_far hx hb hts i7 hown hK hP (hts _ (List.mem_of_getElem? (i := 3) rfl)) dX7_keepBest_107 ?_
          refine lv_iload_n hx hb dX7_keepBest_110 rfl (lv_at hl 1 rfl) ?_
          obtain ⟨h_111, hm⟩ := hm
          refine z_lald hx hb hK hP zJ_79 h_111 dX7_keepBest_111 ?_
          refine lv_aload_n hx hb dX7_keepBest_112 rfl (lv_at hl 0 rfl) ?_
          refine zg_7_far hx hb hts i7 hown hK hP (hts _ (List.mem_of_getElem? (i := 3) rfl)) dX7_keepBest_113 ?_
          refine lv_aload_n hx hb dX7_keepBest_116 rfl (lv_at hl 0 rfl) ?_
          refine zg_7_rows hx hb hts i7 hown hK hP (hts _ (List.mem_of_getElem? (i := 6) rfl)) dX7_keepBest_117 ?_
          obtain ⟨h_120, hm⟩ := hm
          refine z_lald hx hb hK hP zJ_79 h_120 dX7_keepBest_120 ?_
          refine W.lcmp hx hb dX7_keepBest_121 ?_
          refine lv_if_eq (tgt := 129) hx hb dX7_keepBest_122 (by decide) (fun c_122 => ?_) (fun c_122 => ?_)
          · have hm := hm.1 c_122
            refine lv_aload_n hx hb dX7_keepBest_129 rfl (lv_at hl 0 rfl) ?_
            refine zg_7_kinds hx hb hts i7 hown hK hP (hts _ (List.mem_of_getElem? (i := 8) rfl)) dX7_keepBest_130 ?_
            refine lv_iload_n hx hb dX7_keepBest_133 rfl (lv_at hl 1 rfl) ?_
            obtain ⟨h_134, hm⟩ := hm
            refine z_iald hx hb hK hP zI_65 h_134 dX7_keepBest_134 ?_
            exact b135 x1 (S.1 65 (x1).toNatClampNeg) x1 S _ _ _ hm hP hS (lv_sub hl [0, 1] rfl)
          · have hm := hm.2 c_122
            refine lv_iconst (v := (1 : Int32)) hx hb dX7_keepBest_125 (by decide) ?_
            refine lv_goto (tgt := 135) hx hb dX7_keepBest_126 (by decide) ?_
            exact b135 x1 (1 : Int32) x1 S _ _ _ hm hP hS (lv_sub hl [0, 1] rfl)
    refine lv_iconst (v := (0 : Int32)) hx hb dX7_keepBest_91 (by decide) ?_
    refine lv_istore_n (lv' := [(1, .int (0 : Int32)), (0, .ref (a 61))]) hx hb dX7_keepBest_92 rfl hl (by decide) rfl (fun ls hl => ?_)
    obtain ⟨n93, hm⟩ := hm
    exact L93 n93 (0 : Int32) S _ _ _ hm hP hS (lv_sub hl [1, 0] rfl)
  have L6 : ∀ (n : Nat) (x1 : Int32) (S : ZS) (H : Heap) (locs : List Loc) (ls : Array Slot), zn (X7_keepBest_L6 Q) n (x1, S) → va_P D vwCl (zWS k a S) H → va_S (zA a s.heap.size) s.heap H locs → lv_has ls 4 [(0, .ref (a 61)), (1, .int x1)] → zWv p l e (headSpec wsX7_keepBest rm_X7_keepBest).room s m ([.ref (a 61)] : List Value) below meth c D k a Q H locs (F0 m 6 ls []) := by
    intro n
    induction n with
    | zero =>
      intro x1 S H locs ls hm
      exact hm.elim
    | succ n ih6 =>
      intro x1 S H locs ls hm hP hS hl
      have hm : X7_keepBest_B6 x1 S Q (zn (X7_keepBest_L6 Q) n) := hm
      generalize zn (X7_keepBest_L6 Q) n = k6 at hm ih6
      unfold X7_keepBest_B6 at hm
      have b85 : ∀ (x1 : Int32) (S : ZS) (H : Heap) (locs : List Loc) (ls : Array Slot), X7_keepBest_b85 x1 S Q k6 → va_P D vwCl (zWS k a S) H → va_S (zA a s.heap.size) s.heap H locs → lv_has ls 4 [(0, .ref (a 61)), (1, .int x1)] → zWv p l e (headSpec wsX7_keepBest rm_X7_keepBest).room s m ([.ref (a 61)] : List Value) below meth c D k a Q H locs (F0 m 85 ls []) := by
        intro x1 S H locs ls hm hP hS hl
        unfold X7_keepBest_b85 at hm
        obtain ⟨x1_85, ex1_85⟩ : ∃ y : Int32, y = x1 + (1 : Int32) := ⟨_, rfl⟩
        have hm := hm x1_85 ex1_85
        refine lv_iinc (v := x1_85) (lv' := [(1, .int x1_85), (0, .ref (a 61))]) hx hb dX7_keepBest_85 hl (k := 1) rfl (by rw [ex1_85]; rfl) (by decide) rfl (fun ls hl => ?_)
        refine lv_goto (tgt := 6) hx hb dX7_keepBest_88 (by decide) ?_
        exact ih6 x1_85 S _ _ _ hm hP hS (lv_sub hl [1, 0] rfl)
      refine lv_iload_n hx hb dX7_keepBest_6 rfl (lv_at hl 1 rfl) ?_
      refine lv_aload_n hx hb dX7_keepBest_7 rfl (lv_at hl 0 rfl) ?_
      refine zg_7_columns hx hb hts i7 hown hK hP (hts _ (List.mem_of_getElem? (i := 1) rfl)) dX7_keepBest_8 ?_
      refine lv_icmp_ge (tgt := 91) hx hb dX7_keepBest_11 (by decide) (fun c_11 => ?_) (fun c_11 => ?_)
      · have hm := hm.1 c_11
        exact b91  S _ _ _ hm hP hS (lv_sub hl [0] rfl)
      · have hm := hm.2 c_11
        refine lv_aload_n hx hb dX7_keepBest_14 rfl (lv_at hl 0 rfl) ?_
        refine zg_7_costs hx hb hts i7 hown hK hP (hts _ (List.mem_of_getElem? (i := 2) rfl)) dX7_keepBest_15 ?_
        refine lv_iload_n hx hb dX7_keepBest_18 rfl (lv_at hl 1 rfl) ?_
        obtain ⟨h_19, hm⟩ := hm
        refine z_iald hx hb hK hP zI_64 h_19 dX7_keepBest_19 ?_
        refine lv_i2l hx hb dX7_keepBest_20 rfl ?_
        refine lv_aload_n hx hb dX7_keepBest_21 rfl (lv_at hl 0 rfl) ?_
        refine zg_7_far hx hb hts i7 hown hK hP (hts _ (List.mem_of_getElem? (i := 3) rfl)) dX7_keepBest_22 ?_
        refine lv_aload_n hx hb dX7_keepBest_25 rfl (lv_at hl 0 rfl) ?_
        refine lv_iload_n hx hb dX7_keepBest_26 rfl (lv_at hl 1 rfl) ?_
        refine lv_iconst (v := (1 : Int32)) hx hb dX7_keepBest_27 (by decide) ?_
        refine z_cVi (As := [.int x1, .int (1 : Int32)]) (rest := [.ref (a 79), .long (Int32.toInt64 (S.1 64 (x1).toNatClampNeg))]) hF hK hP hS zO_61 rfl rfl (c_X7_endOf l D k a hj x1 (1 : Int32) S _ hm _) (cwV 2 hts gX7_keepBest_X7_endOf rfl rfl rfl (by decide +kernel) ⟨Nat.le_of_ble_eq_true rfl, Nat.le_of_ble_eq_true rfl⟩) rfl hl.1 rfl (Nat.le_of_ble_eq_true rfl) dX7_keepBest_28 ⟨Nat.zero_le _, Nat.zero_le _⟩ (fun r_28 S_28 H locs hm hP hS => ?_)
        obtain ⟨h_31, hm⟩ := hm
        refine z_lald hx hb hK hP zJ_79 h_31 dX7_keepBest_31 ?_
        refine lv_lsub hx hb dX7_keepBest_32 ?_
        refine lv_aload_n hx hb dX7_keepBest_33 rfl (lv_at hl 0 rfl) ?_
        refine zg_7_far hx hb hts i7 hown hK hP (hts _ (List.mem_of_getElem? (i := 3) rfl)) dX7_keepBest_34 ?_
        refine lv_aload_n hx hb dX7_keepBest_37 rfl (lv_at hl 0 rfl) ?_
        refine lv_iload_n hx hb dX7_keepBest_38 rfl (lv_at hl 1 rfl) ?_
        refine lv_iconst (v := (-1 : Int32)) hx hb dX7_keepBest_39 (by decide) ?_
        refine z_cVi (As := [.int x1, .int (-1 : Int32)]) (rest := [.ref (a 79), .long ((Int32.toInt64 (S.1 64 (x1).toNatClampNeg)) - (S_28.2 79 (r_28).toNatClampNeg))]) hF hK hP hS zO_61 rfl rfl (c_X7_endOf l D k a hj x1 (-1 : Int32) S_28 _ hm _) (cwV 2 hts gX7_keepBest_X7_endOf rfl rfl rfl (by decide +kernel) ⟨Nat.le_of_ble_eq_true rfl, Nat.le_of_ble_eq_true rfl⟩) rfl hl.1 rfl (Nat.le_of_ble_eq_true rfl) dX7_keepBest_40 ⟨Nat.zero_le _, Nat.zero_le _⟩ (fun r_40 S_40 H locs hm hP hS => ?_)
        obtain ⟨h_43, hm⟩ := hm
        refine z_lald hx hb hK hP zJ_79 h_43 dX7_keepBest_43 ?_
        refine lv_ladd hx hb dX7_keepBest_44 ?_
        refine lv_topl (fun x2_45 ex2_45 => ?_)
        have hm := hm x2_45 ex2_45
        refine lv_lstore_n (lv' := [(2, .long x2_45), (0, .ref (a 61)), (1, .int x1)]) hx hb dX7_keepBest_45 rfl hl (by decide) rfl (fun ls hl => ?_)
        refine lv_lload_n hx hb dX7_keepBest_46 rfl (lv_at hl 0 rfl) ?_
        refine lv_lconst (v := (0 : Int64)) hx hb dX7_keepBest_47 (by decide) ?_
        refine W.lcmp hx hb dX7_keepBest_48 ?_
        refine lv_if_le (tgt := 67) hx hb dX7_keepBest_49 (by decide) (fun c_49 => ?_) (fun c_49 => ?_)
        · have hm := hm.1 c_49
          refine lv_lload_n hx hb dX7_keepBest_67 rfl (lv_at hl 0 rfl) ?_
          refine lv_lconst (v := (0 : Int64)) hx hb dX7_keepBest_68 (by decide) ?_
          refine W.lcmp hx hb dX7_keepBest_69 ?_
          refine lv_if_ge (tgt := 85) hx hb dX7_keepBest_70 (by decide) (fun c_70 => ?_) (fun c_70 => ?_)
          · have hm := hm.1 c_70
            exact b85 x1 S_40 _ _ _ hm hP hS (lv_sub hl [1, 2] rfl)
          · have hm := hm.2 c_70
            refine lv_aload_n hx hb dX7_keepBest_73 rfl (lv_at hl 1 rfl) ?_
            refine zg_7_low hx hb hts i7 hown hK hP (hts _ (List.mem_of_getElem? (i := 5) rfl)) dX7_keepBest_74 ?_
            refine lv_iload_n hx hb dX7_keepBest_77 rfl (lv_at hl 2 rfl) ?_
            refine lv_aload_n hx hb dX7_keepBest_78 rfl (lv_at hl 1 rfl) ?_
            refine zg_7_high hx hb hts i7 hown hK hP (hts _ (List.mem_of_getElem? (i := 4) rfl)) dX7_keepBest_79 ?_
            refine lv_iload_n hx hb dX7_keepBest_82 rfl (lv_at hl 2 rfl) ?_
            obtain ⟨h_83, hm⟩ := hm
            refine z_iald hx hb hK hP zI_73 h_83 dX7_keepBest_83 ?_
            obtain ⟨h_84, hm⟩ := hm
            refine z_iast hx hb hj hK hP hS zI_72 h_84 dX7_keepBest_84 (fun H locs hP hS => ?_)
            obtain ⟨S_84, eS_84⟩ : ∃ z : ZS, z = zu S_40 72 (x1).toNatClampNeg (S_40.1 73 (x1).toNatClampNeg) := ⟨_, rfl⟩
            rw [← eS_84] at hP
            have hm := hm S_84 eS_84
            exact b85 x1 S_84 _ _ _ hm hP hS (lv_sub hl [1, 2] rfl)
        · have hm := hm.2 c_49
          refine lv_aload_n hx hb dX7_keepBest_52 rfl (lv_at hl 1 rfl) ?_
          refine zg_7_high hx hb hts i7 hown hK hP (hts _ (List.mem_of_getElem? (i := 4) rfl)) dX7_keepBest_53 ?_
          refine lv_iload_n hx hb dX7_keepBest_56 rfl (lv_at hl 2 rfl) ?_
          refine lv_aload_n hx hb dX7_keepBest_57 rfl (lv_at hl 1 rfl) ?_
          refine zg_7_low hx hb hts i7 hown hK hP (hts _ (List.mem_of_getElem? (i := 5) rfl)) dX7_keepBest_58 ?_
          refine lv_iload_n hx hb dX7_keepBest_61 rfl (lv_at hl 2 rfl) ?_
          obtain ⟨h_62, hm⟩ := hm
          refine z_iald hx hb hK hP zI_72 h_62 dX7_keepBest_62 ?_
          obtain ⟨h_63, hm⟩ := hm
          refine z_iast hx hb hj hK hP hS zI_73 h_63 dX7_keepBest_63 (fun H locs hP hS => ?_)
          obtain ⟨S_63, eS_63⟩ : ∃ z : ZS, z = zu S_40 73 (x1).toNatClampNeg (S_40.1 72 (x1).toNatClampNeg) := ⟨_, rfl⟩
          rw [← eS_63] at hP
          have hm := hm S_63 eS_63
          refine lv_goto (tgt := 85) hx hb dX7_keepBest_64 (by decide) ?_
          exact b85 x1 S_63 _ _ _ hm hP hS (lv_sub hl [1, 2] rfl)
  unfold X7_keepBest at hm
  refine lv_aload_n hx hb dX7_keepBest_0 rfl (lv_at hl 0 rfl) ?_
  refine z_cVv (As := []) (rest := []) hF hK hP hS zO_61 rfl rfl (c_X7_begin l D k a hj  S _ hm _) (cwV 0 hts gX7_keepBest_X7_begin rfl rfl rfl (by decide +kernel) ⟨Nat.le_of_ble_eq_true rfl, Nat.le_of_ble_eq_true rfl⟩) rfl hl.1 rfl (Nat.le_of_ble_eq_true rfl) dX7_keepBest_1 ⟨Nat.zero_le _, Nat.zero_le _⟩ (fun S_1 H locs hm hP hS => ?_)
  refine lv_iconst (v := (0 : Int32)) hx hb dX7_keepBest_4 (by decide) ?_
  refine lv_istore_n (lv' := [(1, .int (0 : Int32)), (0, .ref (a 61))]) hx hb dX7_keepBest_5 rfl hl (by decide) rfl (fun ls hl => ?_)
  obtain ⟨n6, hm⟩ := hm
  exact L6 n6 (0 : Int32) S_1 _ _ _ hm hP hS (lv_sub hl [1, 0] rfl)

abbrev rm_X7_way_ : Room := { frames := 1, cells := 0, slots := 0, locals := 25 }
def X7_way__b23 (x1 : Int32) (x2 : Int32) (S : ZS) (Q : Int64 → ZS → Prop) : Prop :=
  vp_in x1 9 ∧ ∀ S_29 : ZS, S_29 = zw S 79 (x1).toNatClampNeg (0 : Int64) → X7_spread S_29 (fun r_31 S_31 => vp_in x2 9 ∧ Q (S_31.2 79 (x2).toNatClampNeg) S_31)
def X7_way__B2 (x1 : Int32) (x2 : Int32) (x3 : Int32) (S : ZS) (Q : Int64 → ZS → Prop) (k2 : Int32 × ZS → Prop) : Prop :=
  ((9 : Int32) ≤ x3 → X7_way__b23 x1 x2 S Q) ∧ (¬ (9 : Int32) ≤ x3 → vp_in x3 9 ∧ ∀ S_16 : ZS, S_16 = zw S 79 (x3).toNatClampNeg (1000000000000 : Int64) → ∀ x3_17 : Int32, x3_17 = x3 + (1 : Int32) → k2 (x3_17, S_16))
def X7_way__L2 (x1 : Int32) (x2 : Int32) (Q : Int64 → ZS → Prop) : (Int32 × ZS) → ((Int32 × ZS) → Prop) → Prop := fun st k2 => X7_way__B2 x1 x2 st.1 st.2 Q k2
def X7_way_ (y1 : Int32) (y2 : Int32) (S : ZS) (Q : Int64 → ZS → Prop) : Prop :=
  zl (X7_way__L2 y1 y2 Q) ((0 : Int32), S)
set_option maxHeartbeats 4000000 in
set_option maxRecDepth 100000 in
theorem c_X7_way_ (l : Launch) (D : va_G) (k : Nat → ClassId) (a : Nat → Nat) (hj : zDj a) (y1 : Int32) (y2 : Int32) (S : ZS) (Q : Int64 → ZS → Prop) (hm : X7_way_ y1 y2 S Q) (sz : Nat) : Met l yX7_way_ wsX7_way_ rm_X7_way_ (zPc D k a [.ref (a 61), .int y1, .int y2] S sz) (va_Ql Q (zB D k a) (zA a sz)) 0 0 (zA a sz) := by
  refine Met.ofW (cc := cX7_way_) (maxL := 4) (ret := (some .long)) (by decide) rfl ?_
  intro p e s m args below meth c s₁ B hml hv
  obtain ⟨rfl, hsz, hP, hK⟩ := hv
  have hx := B.exec
  have hb := B.bytes
  have hr := B.returns
  have hts := atoms_spec (ws := wsX7_way_) B.pre
  have hown : s.vm.findClass RX7 = some m.cls := findClass_of_methodNamed B.named
  have hlocks := B.notSynchronized
  subst hsz
  have hS : va_S (zA a s.heap.size) s.heap s.heap [] := va_S.rf
  have hF : CallFix p m c cX7_way_ 4 s _ wsX7_way_ RX7 := ⟨hx, hb, hml, hown, hts⟩
  have i7 : ∀ w ∈ wsX70, w ∈ wsX7_way_ := fun _ h => (List.mem_cons_of_mem _ (List.mem_append_right _ h))
  have hl := lv_entry ([.ref (a 61), .int y1, .int y2]) (n := 4) (Nat.le_of_ble_eq_true rfl)
  rw [lg_entry_eq]
  generalize (lg_sl ([.ref (a 61), .int y1, .int y2]) ++ List.replicate (4 - (lg_sl ([.ref (a 61), .int y1, .int y2])).length) Slot.unset).toArray = ls at hl ⊢
  have hl : lv_has ls 4 [(0, .ref (a 61)), (1, .int y1), (2, .int y2)] := hl
  have b23 : ∀ (x1 : Int32) (x2 : Int32) (S : ZS) (H : Heap) (locs : List Loc) (ls : Array Slot), X7_way__b23 x1 x2 S Q → va_P D vwCl (zWS k a S) H → va_S (zA a s.heap.size) s.heap H locs → lv_has ls 4 [(0, .ref (a 61)), (1, .int x1), (2, .int x2)] → zWl p l e (headSpec wsX7_way_ rm_X7_way_).room s m ([.ref (a 61), .int y1, .int y2] : List Value) below meth c D k a Q H locs (F0 m 23 ls []) := by
    intro x1 x2 S H locs ls hm hP hS hl
    unfold X7_way__b23 at hm
    refine lv_aload_n hx hb dX7_way__23 rfl (lv_at hl 0 rfl) ?_
    refine zg_7_far hx hb hts i7 hown hK hP (hts _ (List.mem_of_getElem? (i := 1) rfl)) dX7_way__24 ?_
    refine lv_iload_n hx hb dX7_way__27 rfl (lv_at hl 1 rfl) ?_
    refine lv_lconst (v := (0 : Int64)) hx hb dX7_way__28 (by decide) ?_
    obtain ⟨h_29, hm⟩ := hm
    refine z_last hx hb hj hK hP hS zJ_79 h_29 dX7_way__29 (fun H locs hP hS => ?_)
    obtain ⟨S_29, eS_29⟩ : ∃ z : ZS, z = zw S 79 (x1).toNatClampNeg (0 : Int64) := ⟨_, rfl⟩
    rw [← eS_29] at hP
    have hm := hm S_29 eS_29
    refine lv_aload_n hx hb dX7_way__30 rfl (lv_at hl 0 rfl) ?_
    refine z_cVi (As := []) (rest := []) hF hK hP hS zO_61 rfl rfl (c_X7_spread l D k a hj  S_29 _ hm _) (cwV 0 hts gX7_way__X7_spread rfl rfl rfl (by decide +kernel) ⟨Nat.le_of_ble_eq_true rfl, Nat.le_of_ble_eq_true rfl⟩) rfl hl.1 rfl (Nat.le_of_ble_eq_true rfl) dX7_way__31 ⟨Nat.zero_le _, Nat.zero_le _⟩ (fun r_31 S_31 H locs hm hP hS => ?_)
    refine lv_istore_n (lv' := [(3, .int r_31), (0, .ref (a 61)), (1, .int x1), (2, .int x2)]) hx hb dX7_way__34 rfl hl (by decide) rfl (fun ls hl => ?_)
    refine lv_aload_n hx hb dX7_way__35 rfl (lv_at hl 1 rfl) ?_
    refine zg_7_far hx hb hts i7 hown hK hP (hts _ (List.mem_of_getElem? (i := 1) rfl)) dX7_way__36 ?_
    refine lv_iload_n hx hb dX7_way__39 rfl (lv_at hl 3 rfl) ?_
    obtain ⟨h_40, hm⟩ := hm
    refine z_lald hx hb hK hP zJ_79 h_40 dX7_way__40 ?_
    exact z_retl hx hb hr hlocks hP hS hm dX7_way__41
  have L2 : ∀ (x1 : Int32) (x2 : Int32) (n : Nat) (x3 : Int32) (S : ZS) (H : Heap) (locs : List Loc) (ls : Array Slot), zn (X7_way__L2 x1 x2 Q) n (x3, S) → va_P D vwCl (zWS k a S) H → va_S (zA a s.heap.size) s.heap H locs → lv_has ls 4 [(0, .ref (a 61)), (1, .int x1), (2, .int x2), (3, .int x3)] → zWl p l e (headSpec wsX7_way_ rm_X7_way_).room s m ([.ref (a 61), .int y1, .int y2] : List Value) below meth c D k a Q H locs (F0 m 2 ls []) := by
    intro x1 x2 n
    induction n with
    | zero =>
      intro x3 S H locs ls hm
      exact hm.elim
    | succ n ih2 =>
      intro x3 S H locs ls hm hP hS hl
      have hm : X7_way__B2 x1 x2 x3 S Q (zn (X7_way__L2 x1 x2 Q) n) := hm
      generalize zn (X7_way__L2 x1 x2 Q) n = k2 at hm ih2
      unfold X7_way__B2 at hm
      refine lv_iload_n hx hb dX7_way__2 rfl (lv_at hl 3 rfl) ?_
      refine lv_bipush (v := (9 : Int32)) hx hb dX7_way__3 (by decide) ?_
      refine lv_icmp_ge (tgt := 23) hx hb dX7_way__5 (by decide) (fun c_5 => ?_) (fun c_5 => ?_)
      · have hm := hm.1 c_5
        exact b23 x1 x2 S _ _ _ hm hP hS (lv_sub hl [0, 1, 2] rfl)
      · have hm := hm.2 c_5
        refine lv_aload_n hx hb dX7_way__8 rfl (lv_at hl 0 rfl) ?_
        refine zg_7_far hx hb hts i7 hown hK hP (hts _ (List.mem_of_getElem? (i := 1) rfl)) dX7_way__9 ?_
        refine lv_iload_n hx hb dX7_way__12 rfl (lv_at hl 3 rfl) ?_
        refine lv_ldc2 (v := (1000000000000 : Int64)) hx hb hown (hts _ (List.mem_of_getElem? (i := 2) rfl)) dX7_way__13 ?_
        obtain ⟨h_16, hm⟩ := hm
        refine z_last hx hb hj hK hP hS zJ_79 h_16 dX7_way__16 (fun H locs hP hS => ?_)
        obtain ⟨S_16, eS_16⟩ : ∃ z : ZS, z = zw S 79 (x3).toNatClampNeg (1000000000000 : Int64) := ⟨_, rfl⟩
        rw [← eS_16] at hP
        have hm := hm S_16 eS_16
        obtain ⟨x3_17, ex3_17⟩ : ∃ y : Int32, y = x3 + (1 : Int32) := ⟨_, rfl⟩
        have hm := hm x3_17 ex3_17
        refine lv_iinc (v := x3_17) (lv' := [(3, .int x3_17), (0, .ref (a 61)), (1, .int x1), (2, .int x2)]) hx hb dX7_way__17 hl (k := 3) rfl (by rw [ex3_17]; rfl) (by decide) rfl (fun ls hl => ?_)
        refine lv_goto (tgt := 2) hx hb dX7_way__20 (by decide) ?_
        exact ih2 x3_17 S_16 _ _ _ hm hP hS (lv_sub hl [1, 2, 3, 0] rfl)
  unfold X7_way_ at hm
  refine lv_iconst (v := (0 : Int32)) hx hb dX7_way__0 (by decide) ?_
  refine lv_istore_n (lv' := [(3, .int (0 : Int32)), (0, .ref (a 61)), (1, .int y1), (2, .int y2)]) hx hb dX7_way__1 rfl hl (by decide) rfl (fun ls hl => ?_)
  obtain ⟨n2, hm⟩ := hm
  exact L2 y1 y2 n2 (0 : Int32) S _ _ _ hm hP hS (lv_sub hl [1, 2, 3, 0] rfl)

abbrev rm_X7_findPrices : Room := { frames := 3, cells := 0, slots := 0, locals := 69 }
def X7_findPrices_b122 (S : ZS) (Q : ZS → Prop) : Prop :=
  Q S
def X7_findPrices_b73 (x1 : Int32) (t0 : Int64) (S : ZS) (Q : ZS → Prop) (k6 : Int32 × ZS → Prop) : Prop :=
  vp_in x1 8 ∧ vp_in x1 8 ∧ ∀ S_90 : ZS, S_90 = zw S 69 (x1).toNatClampNeg (t0 * (Int32.toInt64 (S.1 71 (x1).toNatClampNeg))) → X7_edge (S_90.1 61 2) x1 t0 (0 : Int32) S_90 (fun S_100 => X7_edge x1 (S_100.1 61 2) (-t0) (0 : Int32) S_100 (fun S_113 => ∀ x1_116 : Int32, x1_116 = x1 + (1 : Int32) → k6 (x1_116, S_113)))
def X7_findPrices_b71 (x1 : Int32) (x6 : Int64) (S : ZS) (Q : ZS → Prop) (k6 : Int32 × ZS → Prop) : Prop :=
  X7_findPrices_b73 x1 x6 S Q k6
def X7_findPrices_b46 (x1 : Int32) (x4 : Int64) (t0 : Int64) (S : ZS) (Q : ZS → Prop) (k6 : Int32 × ZS → Prop) : Prop :=
  (0 ≤ (lg_cmp x4 (1000000000000 : Int64)) → X7_findPrices_b71 x1 t0 S Q k6) ∧ (¬ 0 ≤ (lg_cmp x4 (1000000000000 : Int64)) → ((lg_cmp (-x4) (0 : Int64)) ≤ 0 → X7_findPrices_b71 x1 t0 S Q k6) ∧ (¬ (lg_cmp (-x4) (0 : Int64)) ≤ 0 → X7_findPrices_b73 x1 (-x4) S Q k6))
def X7_findPrices_B6 (x1 : Int32) (S : ZS) (Q : ZS → Prop) (k6 : Int32 × ZS → Prop) : Prop :=
  ((S.1 61 2) ≤ x1 → X7_findPrices_b122 S Q) ∧ (¬ (S.1 61 2) ≤ x1 → X7_way_ (S.1 61 2) x1 S (fun r_20 S_20 => X7_way_ x1 (S_20.1 61 2) S_20 (fun r_30 S_30 => (0 ≤ (lg_cmp r_20 (0 : Int64)) → X7_findPrices_b46 x1 r_30 (0 : Int64) S_30 Q k6) ∧ (¬ 0 ≤ (lg_cmp r_20 (0 : Int64)) → X7_findPrices_b46 x1 r_30 r_20 S_30 Q k6))))
def X7_findPrices_L6 (Q : ZS → Prop) : (Int32 × ZS) → ((Int32 × ZS) → Prop) → Prop := fun st k6 => X7_findPrices_B6 st.1 st.2 Q k6
def X7_findPrices (S : ZS) (Q : ZS → Prop) : Prop :=
  X7_findEdges S (fun S_1 => zl (X7_findPrices_L6 Q) ((0 : Int32), S_1))
set_option maxHeartbeats 4000000 in
set_option maxRecDepth 100000 in
theorem c_X7_findPrices (l : Launch) (D : va_G) (k : Nat → ClassId) (a : Nat → Nat) (hj : zDj a) (S : ZS) (Q : ZS → Prop) (hm : X7_findPrices S Q) (sz : Nat) : Met l yX7_findPrices wsX7_findPrices rm_X7_findPrices (zPc D k a [.ref (a 61)] S sz) (va_Qv Q (zB D k a) (zA a sz)) 0 0 (zA a sz) := by
  refine Met.ofW (cc := cX7_findPrices) (maxL := 8) (ret := none) (by decide) rfl ?_
  intro p e s m args below meth c s₁ B hml hv
  obtain ⟨rfl, hsz, hP, hK⟩ := hv
  have hx := B.exec
  have hb := B.bytes
  have hr := B.returns
  have hts := atoms_spec (ws := wsX7_findPrices) B.pre
  have hown : s.vm.findClass RX7 = some m.cls := findClass_of_methodNamed B.named
  have hlocks := B.notSynchronized
  subst hsz
  have hS : va_S (zA a s.heap.size) s.heap s.heap [] := va_S.rf
  have hF : CallFix p m c cX7_findPrices 8 s _ wsX7_findPrices RX7 := ⟨hx, hb, hml, hown, hts⟩
  have i7 : ∀ w ∈ wsX70, w ∈ wsX7_findPrices := fun _ h => (List.mem_cons_of_mem _ (List.mem_append_right _ h))
  have hl := lv_entry ([.ref (a 61)]) (n := 8) (Nat.le_of_ble_eq_true rfl)
  rw [lg_entry_eq]
  generalize (lg_sl ([.ref (a 61)]) ++ List.replicate (8 - (lg_sl ([.ref (a 61)])).length) Slot.unset).toArray = ls at hl ⊢
  have hl : lv_has ls 8 [(0, .ref (a 61))] := hl
  have b122 : ∀ (S : ZS) (H : Heap) (locs : List Loc) (ls : Array Slot), X7_findPrices_b122 S Q → va_P D vwCl (zWS k a S) H → va_S (zA a s.heap.size) s.heap H locs → lv_has ls 8 [(0, .ref (a 61))] → zWv p l e (headSpec wsX7_findPrices rm_X7_findPrices).room s m ([.ref (a 61)] : List Value) below meth c D k a Q H locs (F0 m 122 ls []) := by
    intro S H locs ls hm hP hS hl
    unfold X7_findPrices_b122 at hm
    exact z_retv hx hb hr hlocks hP hS hm dX7_findPrices_122
  have L6 : ∀ (n : Nat) (x1 : Int32) (S : ZS) (H : Heap) (locs : List Loc) (ls : Array Slot), zn (X7_findPrices_L6 Q) n (x1, S) → va_P D vwCl (zWS k a S) H → va_S (zA a s.heap.size) s.heap H locs → lv_has ls 8 [(0, .ref (a 61)), (1, .int x1)] → zWv p l e (headSpec wsX7_findPrices rm_X7_findPrices).room s m ([.ref (a 61)] : List Value) below meth c D k a Q H locs (F0 m 6 ls []) := by
    intro n
    induction n with
    | zero =>
      intro x1 S H locs ls hm
      exact hm.elim
    | succ n ih6 =>
      intro x1 S H locs ls hm hP hS hl
      have hm : X7_findPrices_B6 x1 S Q (zn (X7_findPrices_L6 Q) n) := hm
      generalize zn (X7_findPrices_L6 Q) n = k6 at hm ih6
      unfold X7_findPrices_B6 at hm
      have b46 : ∀ (x1 : Int32) (x4 : Int64) (t0 : Int64) (S : ZS) (H : Heap) (locs : List Loc) (ls : Array Slot), X7_findPrices_b46 x1 x4 t0 S Q k6 → va_P D vwCl (zWS k a S) H → va_S (zA a s.heap.size) s.heap H locs → lv_has ls 8 [(0, .ref (a 61)), (1, .int x1), (4, .long x4)] → zWv p l e (headSpec wsX7_findPrices rm_X7_findPrices).room s m ([.ref (a 61)] : List Value) below meth c D k a Q H locs (F0 m 46 ls [.long t0]) := by
        intro x1 x4 t0 S H locs ls hm hP hS hl
        unfold X7_findPrices_b46 at hm
        have b73 : ∀ (x1 : Int32) (t0 : Int64) (S : ZS) (H : Heap) (locs : List Loc) (ls : Array Slot), X7_findPrices_b73 x1 t0 S Q k6 → va_P D vwCl (zWS k a S) H → va_S (zA a s.heap.size) s.heap H locs → lv_has ls 8 [(0, .ref (a 61)), (1, .int x1)] → zWv p l e (headSpec wsX7_findPrices rm_X7_findPrices).room s m ([.ref (a 61)] : List Value) below meth c D k a Q H locs (F0 m 73 ls [.long t0]) := by
          intro x1 t0 S H locs ls hm hP hS hl
          unfold X7_findPrices_b73 at hm
          refine lv_lstore (lv' := [(6, .long t0), (0, .ref (a 61)), (1, .int x1)]) hx hb dX7_findPrices_73 hl (by decide) rfl (fun ls hl => ?_)
          refine lv_aload_n hx hb dX7_findPrices_75 rfl (lv_at hl 1 rfl) ?_
          refine zg_7_prices hx hb hts i7 hown hK hP (hts _ (List.mem_of_getElem? (i := 3) rfl)) dX7_findPrices_76 ?_
          refine lv_iload_n hx hb dX7_findPrices_79 rfl (lv_at hl 2 rfl) ?_
          refine lv_lload hx hb dX7_findPrices_80 (lv_at hl 0 rfl) ?_
          refine lv_aload_n hx hb dX7_findPrices_82 rfl (lv_at hl 1 rfl) ?_
          refine zg_7_signs hx hb hts i7 hown hK hP (hts _ (List.mem_of_getElem? (i := 4) rfl)) dX7_findPrices_83 ?_
          refine lv_iload_n hx hb dX7_findPrices_86 rfl (lv_at hl 2 rfl) ?_
          obtain ⟨h_87, hm⟩ := hm
          refine z_iald hx hb hK hP zI_71 h_87 dX7_findPrices_87 ?_
          refine lv_i2l hx hb dX7_findPrices_88 rfl ?_
          refine lv_lmul hx hb dX7_findPrices_89 ?_
          obtain ⟨h_90, hm⟩ := hm
          refine z_last hx hb hj hK hP hS zJ_69 h_90 dX7_findPrices_90 (fun H locs hP hS => ?_)
          obtain ⟨S_90, eS_90⟩ : ∃ z : ZS, z = zw S 69 (x1).toNatClampNeg (t0 * (Int32.toInt64 (S.1 71 (x1).toNatClampNeg))) := ⟨_, rfl⟩
          rw [← eS_90] at hP
          have hm := hm S_90 eS_90
          refine lv_aload_n hx hb dX7_findPrices_91 rfl (lv_at hl 1 rfl) ?_
          refine lv_aload_n hx hb dX7_findPrices_92 rfl (lv_at hl 1 rfl) ?_
          refine zg_7_rows hx hb hts i7 hown hK hP (hts _ (List.mem_of_getElem? (i := 1) rfl)) dX7_findPrices_93 ?_
          refine lv_iload_n hx hb dX7_findPrices_96 rfl (lv_at hl 2 rfl) ?_
          refine lv_lload hx hb dX7_findPrices_97 (lv_at hl 0 rfl) ?_
          refine lv_iconst (v := (0 : Int32)) hx hb dX7_findPrices_99 (by decide) ?_
          refine z_cVv (As := [.int (S_90.1 61 2), .int x1, .long t0, .int (0 : Int32)]) (rest := []) hF hK hP hS zO_61 rfl rfl (c_X7_edge l D k a hj (S_90.1 61 2) x1 t0 (0 : Int32) S_90 _ hm _) (cwV 4 hts gX7_findPrices_X7_edge rfl rfl rfl (by decide +kernel) ⟨Nat.le_of_ble_eq_true rfl, Nat.le_of_ble_eq_true rfl⟩) rfl hl.1 rfl (Nat.le_of_ble_eq_true rfl) dX7_findPrices_100 ⟨Nat.zero_le _, Nat.zero_le _⟩ (fun S_100 H locs hm hP hS => ?_)
          refine lv_aload_n hx hb dX7_findPrices_103 rfl (lv_at hl 1 rfl) ?_
          refine lv_iload_n hx hb dX7_findPrices_104 rfl (lv_at hl 2 rfl) ?_
          refine lv_aload_n hx hb dX7_findPrices_105 rfl (lv_at hl 1 rfl) ?_
          refine zg_7_rows hx hb hts i7 hown hK hP (hts _ (List.mem_of_getElem? (i := 1) rfl)) dX7_findPrices_106 ?_
          refine lv_lload hx hb dX7_findPrices_109 (lv_at hl 0 rfl) ?_
          refine lv_lneg hx hb dX7_findPrices_111 ?_
          refine lv_iconst (v := (0 : Int32)) hx hb dX7_findPrices_112 (by decide) ?_
          refine z_cVv (As := [.int x1, .int (S_100.1 61 2), .long (-t0), .int (0 : Int32)]) (rest := []) hF hK hP hS zO_61 rfl rfl (c_X7_edge l D k a hj x1 (S_100.1 61 2) (-t0) (0 : Int32) S_100 _ hm _) (cwV 4 hts gX7_findPrices_X7_edge rfl rfl rfl (by decide +kernel) ⟨Nat.le_of_ble_eq_true rfl, Nat.le_of_ble_eq_true rfl⟩) rfl hl.1 rfl (Nat.le_of_ble_eq_true rfl) dX7_findPrices_113 ⟨Nat.zero_le _, Nat.zero_le _⟩ (fun S_113 H locs hm hP hS => ?_)
          obtain ⟨x1_116, ex1_116⟩ : ∃ y : Int32, y = x1 + (1 : Int32) := ⟨_, rfl⟩
          have hm := hm x1_116 ex1_116
          refine lv_iinc (v := x1_116) (lv' := [(1, .int x1_116), (6, .long t0), (0, .ref (a 61))]) hx hb dX7_findPrices_116 hl (k := 2) rfl (by rw [ex1_116]; rfl) (by decide) rfl (fun ls hl => ?_)
          refine lv_goto (tgt := 6) hx hb dX7_findPrices_119 (by decide) ?_
          exact ih6 x1_116 S_113 _ _ _ hm hP hS (lv_sub hl [2, 0] rfl)
        have b71 : ∀ (x1 : Int32) (x6 : Int64) (S : ZS) (H : Heap) (locs : List Loc) (ls : Array Slot), X7_findPrices_b71 x1 x6 S Q k6 → va_P D vwCl (zWS k a S) H → va_S (zA a s.heap.size) s.heap H locs → lv_has ls 8 [(0, .ref (a 61)), (1, .int x1), (6, .long x6)] → zWv p l e (headSpec wsX7_findPrices rm_X7_findPrices).room s m ([.ref (a 61)] : List Value) below meth c D k a Q H locs (F0 m 71 ls []) := by
          intro x1 x6 S H locs ls hm hP hS hl
          unfold X7_findPrices_b71 at hm
          refine lv_lload hx hb dX7_findPrices_71 (lv_at hl 2 rfl) ?_
          exact b73 x1 x6 S _ _ _ hm hP hS (lv_sub hl [0, 1] rfl)
        refine lv_lstore (lv' := [(6, .long t0), (0, .ref (a 61)), (1, .int x1), (4, .long x4)]) hx hb dX7_findPrices_46 hl (by decide) rfl (fun ls hl => ?_)
        refine lv_lload hx hb dX7_findPrices_48 (lv_at hl 3 rfl) ?_
        refine lv_ldc2 (v := (1000000000000 : Int64)) hx hb hown (hts _ (List.mem_of_getElem? (i := 2) rfl)) dX7_findPrices_50 ?_
        refine W.lcmp hx hb dX7_findPrices_53 ?_
        refine lv_if_ge (tgt := 71) hx hb dX7_findPrices_54 (by decide) (fun c_54 => ?_) (fun c_54 => ?_)
        · have hm := hm.1 c_54
          exact b71 x1 t0 S _ _ _ hm hP hS (lv_sub hl [1, 2, 0] rfl)
        · have hm := hm.2 c_54
          refine lv_lload hx hb dX7_findPrices_57 (lv_at hl 3 rfl) ?_
          refine lv_lneg hx hb dX7_findPrices_59 ?_
          refine lv_lconst (v := (0 : Int64)) hx hb dX7_findPrices_60 (by decide) ?_
          refine W.lcmp hx hb dX7_findPrices_61 ?_
          refine lv_if_le (tgt := 71) hx hb dX7_findPrices_62 (by decide) (fun c_62 => ?_) (fun c_62 => ?_)
          · have hm := hm.1 c_62
            exact b71 x1 t0 S _ _ _ hm hP hS (lv_sub hl [1, 2, 0] rfl)
          · have hm := hm.2 c_62
            refine lv_lload hx hb dX7_findPrices_65 (lv_at hl 3 rfl) ?_
            refine lv_lneg hx hb dX7_findPrices_67 ?_
            refine lv_goto (tgt := 73) hx hb dX7_findPrices_68 (by decide) ?_
            exact b73 x1 (-x4) S _ _ _ hm hP hS (lv_sub hl [1, 2] rfl)
      refine lv_iload_n hx hb dX7_findPrices_6 rfl (lv_at hl 1 rfl) ?_
      refine lv_aload_n hx hb dX7_findPrices_7 rfl (lv_at hl 0 rfl) ?_
      refine zg_7_rows hx hb hts i7 hown hK hP (hts _ (List.mem_of_getElem? (i := 1) rfl)) dX7_findPrices_8 ?_
      refine lv_icmp_ge (tgt := 122) hx hb dX7_findPrices_11 (by decide) (fun c_11 => ?_) (fun c_11 => ?_)
      · have hm := hm.1 c_11
        exact b122  S _ _ _ hm hP hS (lv_sub hl [0] rfl)
      · have hm := hm.2 c_11
        refine lv_aload_n hx hb dX7_findPrices_14 rfl (lv_at hl 0 rfl) ?_
        refine lv_aload_n hx hb dX7_findPrices_15 rfl (lv_at hl 0 rfl) ?_
        refine zg_7_rows hx hb hts i7 hown hK hP (hts _ (List.mem_of_getElem? (i := 1) rfl)) dX7_findPrices_16 ?_
        refine lv_iload_n hx hb dX7_findPrices_19 rfl (lv_at hl 1 rfl) ?_
        refine z_cVl (As := [.int (S.1 61 2), .int x1]) (rest := []) hF hK hP hS zO_61 rfl rfl (c_X7_way_ l D k a hj (S.1 61 2) x1 S _ hm _) (cwV 2 hts gX7_findPrices_X7_way_ rfl rfl rfl (by decide +kernel) ⟨Nat.le_of_ble_eq_true rfl, Nat.le_of_ble_eq_true rfl⟩) rfl hl.1 rfl (Nat.le_of_ble_eq_true rfl) dX7_findPrices_20 ⟨Nat.zero_le _, Nat.zero_le _⟩ (fun r_20 S_20 H locs hm hP hS => ?_)
        refine lv_lstore_n (lv' := [(2, .long r_20), (0, .ref (a 61)), (1, .int x1)]) hx hb dX7_findPrices_23 rfl hl (by decide) rfl (fun ls hl => ?_)
        refine lv_aload_n hx hb dX7_findPrices_24 rfl (lv_at hl 1 rfl) ?_
        refine lv_iload_n hx hb dX7_findPrices_25 rfl (lv_at hl 2 rfl) ?_
        refine lv_aload_n hx hb dX7_findPrices_26 rfl (lv_at hl 1 rfl) ?_
        refine zg_7_rows hx hb hts i7 hown hK hP (hts _ (List.mem_of_getElem? (i := 1) rfl)) dX7_findPrices_27 ?_
        refine z_cVl (As := [.int x1, .int (S_20.1 61 2)]) (rest := []) hF hK hP hS zO_61 rfl rfl (c_X7_way_ l D k a hj x1 (S_20.1 61 2) S_20 _ hm _) (cwV 2 hts gX7_findPrices_X7_way_ rfl rfl rfl (by decide +kernel) ⟨Nat.le_of_ble_eq_true rfl, Nat.le_of_ble_eq_true rfl⟩) rfl hl.1 rfl (Nat.le_of_ble_eq_true rfl) dX7_findPrices_30 ⟨Nat.zero_le _, Nat.zero_le _⟩ (fun r_30 S_30 H locs hm hP hS => ?_)
        refine lv_lstore (lv' := [(4, .long r_30), (2, .long r_20), (0, .ref (a 61)), (1, .int x1)]) hx hb dX7_findPrices_33 hl (by decide) rfl (fun ls hl => ?_)
        refine lv_lload_n hx hb dX7_findPrices_35 rfl (lv_at hl 1 rfl) ?_
        refine lv_lconst (v := (0 : Int64)) hx hb dX7_findPrices_36 (by decide) ?_
        refine W.lcmp hx hb dX7_findPrices_37 ?_
        refine lv_if_ge (tgt := 45) hx hb dX7_findPrices_38 (by decide) (fun c_38 => ?_) (fun c_38 => ?_)
        · have hm := hm.1 c_38
          refine lv_lconst (v := (0 : Int64)) hx hb dX7_findPrices_45 (by decide) ?_
          exact b46 x1 r_30 (0 : Int64) S_30 _ _ _ hm hP hS (lv_sub hl [2, 3, 0] rfl)
        · have hm := hm.2 c_38
          refine lv_lload_n hx hb dX7_findPrices_41 rfl (lv_at hl 1 rfl) ?_
          refine lv_goto (tgt := 46) hx hb dX7_findPrices_42 (by decide) ?_
          exact b46 x1 r_30 r_20 S_30 _ _ _ hm hP hS (lv_sub hl [2, 3, 0] rfl)
  unfold X7_findPrices at hm
  refine lv_aload_n hx hb dX7_findPrices_0 rfl (lv_at hl 0 rfl) ?_
  refine z_cVv (As := []) (rest := []) hF hK hP hS zO_61 rfl rfl (c_X7_findEdges l D k a hj  S _ hm _) (cwV 0 hts gX7_findPrices_X7_findEdges rfl rfl rfl (by decide +kernel) ⟨Nat.le_of_ble_eq_true rfl, Nat.le_of_ble_eq_true rfl⟩) rfl hl.1 rfl (Nat.le_of_ble_eq_true rfl) dX7_findPrices_1 ⟨Nat.zero_le _, Nat.zero_le _⟩ (fun S_1 H locs hm hP hS => ?_)
  refine lv_iconst (v := (0 : Int32)) hx hb dX7_findPrices_4 (by decide) ?_
  refine lv_istore_n (lv' := [(1, .int (0 : Int32)), (0, .ref (a 61))]) hx hb dX7_findPrices_5 rfl hl (by decide) rfl (fun ls hl => ?_)
  obtain ⟨n6, hm⟩ := hm
  exact L6 n6 (0 : Int32) S_1 _ _ _ hm hP hS (lv_sub hl [1, 0] rfl)

