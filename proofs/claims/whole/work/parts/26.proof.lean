abbrev rm_X3_isIn : Room := { frames := 0, cells := 0, slots := 0, locals := 0 }
def X3_isIn_b14 (t0 : Int32) (S : ZS) (Q : Int32 → ZS → Prop) : Prop :=
  zbit t0 ∧ Q t0 S
def X3_isIn (y0 : Int32) (y1 : Int32) (S : ZS) (Q : Int32 → ZS → Prop) : Prop :=
  (((y0 >>> (y1 &&& 31)) &&& (1 : Int32)) = (1 : Int32) → X3_isIn_b14 (1 : Int32) S Q) ∧ (¬ ((y0 >>> (y1 &&& 31)) &&& (1 : Int32)) = (1 : Int32) → X3_isIn_b14 (0 : Int32) S Q)
set_option maxHeartbeats 4000000 in
set_option maxRecDepth 100000 in
theorem c_X3_isIn (l : Launch) (D : va_G) (k : Nat → ClassId) (a : Nat → Nat) (hj : zDj a) (y0 : Int32) (y1 : Int32) (S : ZS) (Q : Int32 → ZS → Prop) (hm : X3_isIn y0 y1 S Q) (sz : Nat) : Met l yX3_isIn wsX3_isIn rm_X3_isIn (zPc D k a [.int y0, .int y1] S sz) (va_Qi Q (zB D k a) (zA a sz)) 0 0 (zA a sz) := by
  refine Met.ofW (cc := cX3_isIn) (maxL := 2) (ret := (some .boolean)) (by decide) rfl ?_
  intro p e s m args below meth c s₁ B hml hv
  obtain ⟨rfl, hsz, hP, hK⟩ := hv
  have hx := B.exec
  have hb := B.bytes
  have hr := B.returns
  have hts := atoms_spec (ws := wsX3_isIn) B.pre
  have hown : s.vm.findClass RX3 = some m.cls := findClass_of_methodNamed B.named
  have hlocks := B.notSynchronized
  subst hsz
  have hS : va_S (zA a s.heap.size) s.heap s.heap [] := va_S.rf
  have hF : CallFix p m c cX3_isIn 2 s _ wsX3_isIn RX3 := ⟨hx, hb, hml, hown, hts⟩
  have hl := lv_entry ([.int y0, .int y1]) (n := 2) (Nat.le_of_ble_eq_true rfl)
  rw [lg_entry_eq]
  generalize (lg_sl ([.int y0, .int y1]) ++ List.replicate (2 - (lg_sl ([.int y0, .int y1])).length) Slot.unset).toArray = ls at hl ⊢
  have hl : lv_has ls 2 [(0, .int y0), (1, .int y1)] := hl
  have b14 : ∀ (t0 : Int32) (S : ZS) (H : Heap) (locs : List Loc) (ls : Array Slot), X3_isIn_b14 t0 S Q → va_P D vwCl (zWS k a S) H → va_S (zA a s.heap.size) s.heap H locs → lv_has ls 2 [] → zWi p l e (headSpec wsX3_isIn rm_X3_isIn).room s m ([.int y0, .int y1] : List Value) below meth c D k a Q H locs (F0 m 14 ls [.int t0]) := by
    intro t0 S H locs ls hm hP hS hl
    unfold X3_isIn_b14 at hm
    exact z_retz hx hb hr hlocks hP hS hm dX3_isIn_14
  unfold X3_isIn at hm
  refine lv_iload_n hx hb dX3_isIn_0 rfl (lv_at hl 0 rfl) ?_
  refine lv_iload_n hx hb dX3_isIn_1 rfl (lv_at hl 1 rfl) ?_
  refine lv_ishr hx hb dX3_isIn_2 ?_
  refine lv_iconst (v := (1 : Int32)) hx hb dX3_isIn_3 (by decide) ?_
  refine lv_iand hx hb dX3_isIn_4 ?_
  refine lv_iconst (v := (1 : Int32)) hx hb dX3_isIn_5 (by decide) ?_
  refine lv_icmp_ne (tgt := 13) hx hb dX3_isIn_6 (by decide) (fun c_6 => ?_) (fun c_6 => ?_)
  · have hm := hm.2 c_6
    refine lv_iconst (v := (0 : Int32)) hx hb dX3_isIn_13 (by decide) ?_
    exact b14 (0 : Int32) S _ _ _ hm hP hS (lv_sub hl [] rfl)
  · have hm := hm.1 c_6
    refine lv_iconst (v := (1 : Int32)) hx hb dX3_isIn_9 (by decide) ?_
    refine lv_goto (tgt := 14) hx hb dX3_isIn_10 (by decide) ?_
    exact b14 (1 : Int32) S _ _ _ hm hP hS (lv_sub hl [] rfl)

abbrev rm_X3_addUp : Room := { frames := 1, cells := 0, slots := 0, locals := 21 }
def X3_addUp_b50 (x5 : Int32) (S : ZS) (Q : Int32 → ZS → Prop) : Prop :=
  Q x5 S
def X3_addUp_b44 (x3 : Int32) (x4 : Int32) (x5 : Int32) (x6 : Int32) (S : ZS) (Q : Int32 → ZS → Prop) (k6 : Int32 × Int32 × ZS → Prop) : Prop :=
  ∀ x6_44 : Int32, x6_44 = x6 + (1 : Int32) → k6 (x5, x6_44, S)
def X3_addUp_B6 (x3 : Int32) (x4 : Int32) (x5 : Int32) (x6 : Int32) (S : ZS) (Q : Int32 → ZS → Prop) (k6 : Int32 × Int32 × ZS → Prop) : Prop :=
  ((S.1 1 1) ≤ x6 → X3_addUp_b50 x5 S Q) ∧ (¬ (S.1 1 1) ≤ x6 → X3_isIn x3 x6 S (fun r_18 S_18 => (r_18 = 0 → X3_addUp_b44 x3 x4 x5 x6 S_18 Q k6) ∧ (¬ r_18 = 0 → vp_in x6 8 ∧ vp_in x4 10 ∧ vp_in x6 8 ∧ ∀ x5_42 : Int32, x5_42 = (x5 + ((S_18.1 (14 + (x6).toNatClampNeg) (x4).toNatClampNeg) * (S_18.1 23 (x6).toNatClampNeg))) → X3_addUp_b44 x3 x4 x5_42 x6 S_18 Q k6)))
def X3_addUp_L6 (x3 : Int32) (x4 : Int32) (Q : Int32 → ZS → Prop) : (Int32 × Int32 × ZS) → ((Int32 × Int32 × ZS) → Prop) → Prop := fun st k6 => X3_addUp_B6 x3 x4 st.1 st.2.1 st.2.2 Q k6
def X3_addUp (y3 : Int32) (y4 : Int32) (S : ZS) (Q : Int32 → ZS → Prop) : Prop :=
  zl (X3_addUp_L6 y3 y4 Q) ((0 : Int32), (0 : Int32), S)
set_option maxHeartbeats 4000000 in
set_option maxRecDepth 100000 in
theorem c_X3_addUp (l : Launch) (D : va_G) (k : Nat → ClassId) (a : Nat → Nat) (hj : zDj a) (y3 : Int32) (y4 : Int32) (S : ZS) (Q : Int32 → ZS → Prop) (hm : X3_addUp y3 y4 S Q) (sz : Nat) : Met l yX3_addUp wsX3_addUp rm_X3_addUp (zPc D k a [.ref (a 5), .ref (a 1), .ref (a 23), .int y3, .int y4] S sz) (va_Qi Q (zB D k a) (zA a sz)) 0 0 (zA a sz) := by
  refine Met.ofW (cc := cX3_addUp) (maxL := 7) (ret := (some .int)) (by decide) rfl ?_
  intro p e s m args below meth c s₁ B hml hv
  obtain ⟨rfl, hsz, hP, hK⟩ := hv
  have hx := B.exec
  have hb := B.bytes
  have hr := B.returns
  have hts := atoms_spec (ws := wsX3_addUp) B.pre
  have hown : s.vm.findClass RX3 = some m.cls := findClass_of_methodNamed B.named
  have hlocks := B.notSynchronized
  subst hsz
  have hS : va_S (zA a s.heap.size) s.heap s.heap [] := va_S.rf
  have hF : CallFix p m c cX3_addUp 7 s _ wsX3_addUp RX3 := ⟨hx, hb, hml, hown, hts⟩
  have i5 : ∀ w ∈ wsX50, w ∈ wsX3_addUp := fun _ h => (List.mem_cons_of_mem _ (List.mem_append_right _ h))
  have hl := lv_entry ([.ref (a 5), .ref (a 1), .ref (a 23), .int y3, .int y4]) (n := 7) (Nat.le_of_ble_eq_true rfl)
  rw [lg_entry_eq]
  generalize (lg_sl ([.ref (a 5), .ref (a 1), .ref (a 23), .int y3, .int y4]) ++ List.replicate (7 - (lg_sl ([.ref (a 5), .ref (a 1), .ref (a 23), .int y3, .int y4])).length) Slot.unset).toArray = ls at hl ⊢
  have hl : lv_has ls 7 [(0, .ref (a 5)), (1, .ref (a 1)), (2, .ref (a 23)), (3, .int y3), (4, .int y4)] := hl
  have b50 : ∀ (x5 : Int32) (S : ZS) (H : Heap) (locs : List Loc) (ls : Array Slot), X3_addUp_b50 x5 S Q → va_P D vwCl (zWS k a S) H → va_S (zA a s.heap.size) s.heap H locs → lv_has ls 7 [(0, .ref (a 5)), (1, .ref (a 1)), (2, .ref (a 23)), (5, .int x5)] → zWi p l e (headSpec wsX3_addUp rm_X3_addUp).room s m ([.ref (a 5), .ref (a 1), .ref (a 23), .int y3, .int y4] : List Value) below meth c D k a Q H locs (F0 m 50 ls []) := by
    intro x5 S H locs ls hm hP hS hl
    unfold X3_addUp_b50 at hm
    refine lv_iload hx hb dX3_addUp_50 (lv_at hl 3 rfl) ?_
    exact z_reti hx hb hr hlocks hP hS hm dX3_addUp_52
  have L6 : ∀ (x3 : Int32) (x4 : Int32) (n : Nat) (x5 : Int32) (x6 : Int32) (S : ZS) (H : Heap) (locs : List Loc) (ls : Array Slot), zn (X3_addUp_L6 x3 x4 Q) n (x5, x6, S) → va_P D vwCl (zWS k a S) H → va_S (zA a s.heap.size) s.heap H locs → lv_has ls 7 [(0, .ref (a 5)), (1, .ref (a 1)), (2, .ref (a 23)), (3, .int x3), (4, .int x4), (5, .int x5), (6, .int x6)] → zWi p l e (headSpec wsX3_addUp rm_X3_addUp).room s m ([.ref (a 5), .ref (a 1), .ref (a 23), .int y3, .int y4] : List Value) below meth c D k a Q H locs (F0 m 6 ls []) := by
    intro x3 x4 n
    induction n with
    | zero =>
      intro x5 x6 S H locs ls hm
      exact hm.elim
    | succ n ih6 =>
      intro x5 x6 S H locs ls hm hP hS hl
      have hm : X3_addUp_B6 x3 x4 x5 x6 S Q (zn (X3_addUp_L6 x3 x4 Q) n) := hm
      generalize zn (X3_addUp_L6 x3 x4 Q) n = k6 at hm ih6
      unfold X3_addUp_B6 at hm
      have b44 : ∀ (x5 : Int32) (x6 : Int32) (S : ZS) (H : Heap) (locs : List Loc) (ls : Array Slot), X3_addUp_b44 x3 x4 x5 x6 S Q k6 → va_P D vwCl (zWS k a S) H → va_S (zA a s.heap.size) s.heap H locs → lv_has ls 7 [(0, .ref (a 5)), (1, .ref (a 1)), (2, .ref (a 23)), (3, .int x3), (4, .int x4), (5, .int x5), (6, .int x6)] → zWi p l e (headSpec wsX3_addUp rm_X3_addUp).room s m ([.ref (a 5), .ref (a 1), .ref (a 23), .int y3, .int y4] : List Value) below meth c D k a Q H locs (F0 m 44 ls []) := by
        intro x5 x6 S H locs ls hm hP hS hl
        unfold X3_addUp_b44 at hm
        obtain ⟨x6_44, ex6_44⟩ : ∃ y : Int32, y = x6 + (1 : Int32) := ⟨_, rfl⟩
        have hm := hm x6_44 ex6_44
        refine lv_iinc (v := x6_44) (lv' := [(6, .int x6_44), (0, .ref (a 5)), (1, .ref (a 1)), (2, .ref (a 23)), (3, .int x3), (4, .int x4), (5, .int x5)]) hx hb dX3_addUp_44 hl (k := 6) rfl (by rw [ex6_44]; rfl) (by decide) rfl (fun ls hl => ?_)
        refine lv_goto (tgt := 6) hx hb dX3_addUp_47 (by decide) ?_
        exact ih6 x5 x6_44 S _ _ _ hm hP hS (lv_sub hl [1, 2, 3, 4, 5, 6, 0] rfl)
      refine lv_iload hx hb dX3_addUp_6 (lv_at hl 6 rfl) ?_
      refine lv_aload_n hx hb dX3_addUp_8 rfl (lv_at hl 1 rfl) ?_
      refine zg_5_rows hx hb hts i5 hown hK hP (hts _ (List.mem_of_getElem? (i := 1) rfl)) dX3_addUp_9 ?_
      refine lv_icmp_ge (tgt := 50) hx hb dX3_addUp_12 (by decide) (fun c_12 => ?_) (fun c_12 => ?_)
      · have hm := hm.1 c_12
        exact b50 x5 S _ _ _ hm hP hS (lv_sub hl [0, 1, 2, 5] rfl)
      · have hm := hm.2 c_12
        refine lv_iload_n hx hb dX3_addUp_15 rfl (lv_at hl 3 rfl) ?_
        refine lv_iload hx hb dX3_addUp_16 (lv_at hl 6 rfl) ?_
        refine z_cSi (As := [.int x3, .int x6]) (rest := []) hF hK hP hS (c_X3_isIn l D k a hj x3 x6 S _ hm _) (va_cwS 2 hts gX3_addUp_X3_isIn rfl rfl rfl (by decide +kernel) ⟨Nat.le_of_ble_eq_true rfl, Nat.le_of_ble_eq_true rfl⟩) rfl hl.1 rfl (Nat.le_of_ble_eq_true rfl) dX3_addUp_18 ⟨Nat.zero_le _, Nat.zero_le _⟩ (fun r_18 S_18 H locs hm hP hS => ?_)
        refine lv_if_eq (tgt := 44) hx hb dX3_addUp_21 (by decide) (fun c_21 => ?_) (fun c_21 => ?_)
        · have hm := hm.1 c_21
          exact b44 x5 x6 S_18 _ _ _ hm hP hS (lv_sub hl [0, 1, 2, 3, 4, 5, 6] rfl)
        · have hm := hm.2 c_21
          refine lv_iload hx hb dX3_addUp_24 (lv_at hl 5 rfl) ?_
          refine lv_aload_n hx hb dX3_addUp_26 rfl (lv_at hl 1 rfl) ?_
          refine zg_5_a hx hb hts i5 hown hK hP (hts _ (List.mem_of_getElem? (i := 2) rfl)) dX3_addUp_27 ?_
          refine lv_iload hx hb dX3_addUp_30 (lv_at hl 6 rfl) ?_
          obtain ⟨h_32, hm⟩ := hm
          refine z_aald hx hb hK hP zQ_13 h_32 dX3_addUp_32 ?_
          refine lv_iload hx hb dX3_addUp_33 (lv_at hl 4 rfl) ?_
          obtain ⟨h_35, hm⟩ := hm
          refine z_iald hx hb hK hP (zRi_13 h_32) h_35 dX3_addUp_35 ?_
          refine lv_aload_n hx hb dX3_addUp_36 rfl (lv_at hl 2 rfl) ?_
          refine lv_iload hx hb dX3_addUp_37 (lv_at hl 6 rfl) ?_
          obtain ⟨h_39, hm⟩ := hm
          refine z_iald hx hb hK hP zI_23 h_39 dX3_addUp_39 ?_
          refine lv_imul hx hb dX3_addUp_40 ?_
          refine lv_iadd hx hb dX3_addUp_41 ?_
          refine lv_topi (fun x5_42 ex5_42 => ?_)
          have hm := hm x5_42 ex5_42
          refine lv_istore (lv' := [(5, .int x5_42), (0, .ref (a 5)), (1, .ref (a 1)), (2, .ref (a 23)), (3, .int x3), (4, .int x4), (6, .int x6)]) hx hb dX3_addUp_42 hl (by decide) rfl (fun ls hl => ?_)
          exact b44 x5_42 x6 S_18 _ _ _ hm hP hS (lv_sub hl [1, 2, 3, 4, 5, 0, 6] rfl)
  unfold X3_addUp at hm
  refine lv_iconst (v := (0 : Int32)) hx hb dX3_addUp_0 (by decide) ?_
  refine lv_istore (lv' := [(5, .int (0 : Int32)), (0, .ref (a 5)), (1, .ref (a 1)), (2, .ref (a 23)), (3, .int y3), (4, .int y4)]) hx hb dX3_addUp_1 hl (by decide) rfl (fun ls hl => ?_)
  refine lv_iconst (v := (0 : Int32)) hx hb dX3_addUp_3 (by decide) ?_
  refine lv_istore (lv' := [(6, .int (0 : Int32)), (5, .int (0 : Int32)), (0, .ref (a 5)), (1, .ref (a 1)), (2, .ref (a 23)), (3, .int y3), (4, .int y4)]) hx hb dX3_addUp_4 hl (by decide) rfl (fun ls hl => ?_)
  obtain ⟨n6, hm⟩ := hm
  exact L6 y3 y4 n6 (0 : Int32) (0 : Int32) S _ _ _ hm hP hS (lv_sub hl [2, 3, 4, 5, 6, 1, 0] rfl)

abbrev rm_X3_addRights : Room := { frames := 1, cells := 0, slots := 0, locals := 21 }
def X3_addRights_b47 (x4 : Int32) (S : ZS) (Q : Int32 → ZS → Prop) : Prop :=
  Q x4 S
def X3_addRights_b41 (x3 : Int32) (x4 : Int32) (x5 : Int32) (S : ZS) (Q : Int32 → ZS → Prop) (k6 : Int32 × Int32 × ZS → Prop) : Prop :=
  ∀ x5_41 : Int32, x5_41 = x5 + (1 : Int32) → k6 (x4, x5_41, S)
def X3_addRights_B6 (x3 : Int32) (x4 : Int32) (x5 : Int32) (S : ZS) (Q : Int32 → ZS → Prop) (k6 : Int32 × Int32 × ZS → Prop) : Prop :=
  ((S.1 1 1) ≤ x5 → X3_addRights_b47 x4 S Q) ∧ (¬ (S.1 1 1) ≤ x5 → X3_isIn x3 x5 S (fun r_18 S_18 => (r_18 = 0 → X3_addRights_b41 x3 x4 x5 S_18 Q k6) ∧ (¬ r_18 = 0 → vp_in x5 8 ∧ vp_in x5 8 ∧ ∀ x4_39 : Int32, x4_39 = (x4 + ((S_18.1 12 (x5).toNatClampNeg) * (S_18.1 23 (x5).toNatClampNeg))) → X3_addRights_b41 x3 x4_39 x5 S_18 Q k6)))
def X3_addRights_L6 (x3 : Int32) (Q : Int32 → ZS → Prop) : (Int32 × Int32 × ZS) → ((Int32 × Int32 × ZS) → Prop) → Prop := fun st k6 => X3_addRights_B6 x3 st.1 st.2.1 st.2.2 Q k6
def X3_addRights (y3 : Int32) (S : ZS) (Q : Int32 → ZS → Prop) : Prop :=
  zl (X3_addRights_L6 y3 Q) ((0 : Int32), (0 : Int32), S)
set_option maxHeartbeats 4000000 in
set_option maxRecDepth 100000 in
theorem c_X3_addRights (l : Launch) (D : va_G) (k : Nat → ClassId) (a : Nat → Nat) (hj : zDj a) (y3 : Int32) (S : ZS) (Q : Int32 → ZS → Prop) (hm : X3_addRights y3 S Q) (sz : Nat) : Met l yX3_addRights wsX3_addRights rm_X3_addRights (zPc D k a [.ref (a 5), .ref (a 1), .ref (a 23), .int y3] S sz) (va_Qi Q (zB D k a) (zA a sz)) 0 0 (zA a sz) := by
  refine Met.ofW (cc := cX3_addRights) (maxL := 6) (ret := (some .int)) (by decide) rfl ?_
  intro p e s m args below meth c s₁ B hml hv
  obtain ⟨rfl, hsz, hP, hK⟩ := hv
  have hx := B.exec
  have hb := B.bytes
  have hr := B.returns
  have hts := atoms_spec (ws := wsX3_addRights) B.pre
  have hown : s.vm.findClass RX3 = some m.cls := findClass_of_methodNamed B.named
  have hlocks := B.notSynchronized
  subst hsz
  have hS : va_S (zA a s.heap.size) s.heap s.heap [] := va_S.rf
  have hF : CallFix p m c cX3_addRights 6 s _ wsX3_addRights RX3 := ⟨hx, hb, hml, hown, hts⟩
  have i5 : ∀ w ∈ wsX50, w ∈ wsX3_addRights := fun _ h => (List.mem_cons_of_mem _ (List.mem_append_right _ h))
  have hl := lv_entry ([.ref (a 5), .ref (a 1), .ref (a 23), .int y3]) (n := 6) (Nat.le_of_ble_eq_true rfl)
  rw [lg_entry_eq]
  generalize (lg_sl ([.ref (a 5), .ref (a 1), .ref (a 23), .int y3]) ++ List.replicate (6 - (lg_sl ([.ref (a 5), .ref (a 1), .ref (a 23), .int y3])).length) Slot.unset).toArray = ls at hl ⊢
  have hl : lv_has ls 6 [(0, .ref (a 5)), (1, .ref (a 1)), (2, .ref (a 23)), (3, .int y3)] := hl
  have b47 : ∀ (x4 : Int32) (S : ZS) (H : Heap) (locs : List Loc) (ls : Array Slot), X3_addRights_b47 x4 S Q → va_P D vwCl (zWS k a S) H → va_S (zA a s.heap.size) s.heap H locs → lv_has ls 6 [(0, .ref (a 5)), (1, .ref (a 1)), (2, .ref (a 23)), (4, .int x4)] → zWi p l e (headSpec wsX3_addRights rm_X3_addRights).room s m ([.ref (a 5), .ref (a 1), .ref (a 23), .int y3] : List Value) below meth c D k a Q H locs (F0 m 47 ls []) := by
    intro x4 S H locs ls hm hP hS hl
    unfold X3_addRights_b47 at hm
    refine lv_iload hx hb dX3_addRights_47 (lv_at hl 3 rfl) ?_
    exact z_reti hx hb hr hlocks hP hS hm dX3_addRights_49
  have L6 : ∀ (x3 : Int32) (n : Nat) (x4 : Int32) (x5 : Int32) (S : ZS) (H : Heap) (locs : List Loc) (ls : Array Slot), zn (X3_addRights_L6 x3 Q) n (x4, x5, S) → va_P D vwCl (zWS k a S) H → va_S (zA a s.heap.size) s.heap H locs → lv_has ls 6 [(0, .ref (a 5)), (1, .ref (a 1)), (2, .ref (a 23)), (3, .int x3), (4, .int x4), (5, .int x5)] → zWi p l e (headSpec wsX3_addRights rm_X3_addRights).room s m ([.ref (a 5), .ref (a 1), .ref (a 23), .int y3] : List Value) below meth c D k a Q H locs (F0 m 6 ls []) := by
    intro x3 n
    induction n with
    | zero =>
      intro x4 x5 S H locs ls hm
      exact hm.elim
    | succ n ih6 =>
      intro x4 x5 S H locs ls hm hP hS hl
      have hm : X3_addRights_B6 x3 x4 x5 S Q (zn (X3_addRights_L6 x3 Q) n) := hm
      generalize zn (X3_addRights_L6 x3 Q) n = k6 at hm ih6
      unfold X3_addRights_B6 at hm
      have b41 : ∀ (x4 : Int32) (x5 : Int32) (S : ZS) (H : Heap) (locs : List Loc) (ls : Array Slot), X3_addRights_b41 x3 x4 x5 S Q k6 → va_P D vwCl (zWS k a S) H → va_S (zA a s.heap.size) s.heap H locs → lv_has ls 6 [(0, .ref (a 5)), (1, .ref (a 1)), (2, .ref (a 23)), (3, .int x3), (4, .int x4), (5, .int x5)] → zWi p l e (headSpec wsX3_addRights rm_X3_addRights).room s m ([.ref (a 5), .ref (a 1), .ref (a 23), .int y3] : List Value) below meth c D k a Q H locs (F0 m 41 ls []) := by
        intro x4 x5 S H locs ls hm hP hS hl
        unfold X3_addRights_b41 at hm
        obtain ⟨x5_41, ex5_41⟩ : ∃ y : Int32, y = x5 + (1 : Int32) := ⟨_, rfl⟩
        have hm := hm x5_41 ex5_41
        refine lv_iinc (v := x5_41) (lv' := [(5, .int x5_41), (0, .ref (a 5)), (1, .ref (a 1)), (2, .ref (a 23)), (3, .int x3), (4, .int x4)]) hx hb dX3_addRights_41 hl (k := 5) rfl (by rw [ex5_41]; rfl) (by decide) rfl (fun ls hl => ?_)
        refine lv_goto (tgt := 6) hx hb dX3_addRights_44 (by decide) ?_
        exact ih6 x4 x5_41 S _ _ _ hm hP hS (lv_sub hl [1, 2, 3, 4, 5, 0] rfl)
      refine lv_iload hx hb dX3_addRights_6 (lv_at hl 5 rfl) ?_
      refine lv_aload_n hx hb dX3_addRights_8 rfl (lv_at hl 1 rfl) ?_
      refine zg_5_rows hx hb hts i5 hown hK hP (hts _ (List.mem_of_getElem? (i := 1) rfl)) dX3_addRights_9 ?_
      refine lv_icmp_ge (tgt := 47) hx hb dX3_addRights_12 (by decide) (fun c_12 => ?_) (fun c_12 => ?_)
      · have hm := hm.1 c_12
        exact b47 x4 S _ _ _ hm hP hS (lv_sub hl [0, 1, 2, 4] rfl)
      · have hm := hm.2 c_12
        refine lv_iload_n hx hb dX3_addRights_15 rfl (lv_at hl 3 rfl) ?_
        refine lv_iload hx hb dX3_addRights_16 (lv_at hl 5 rfl) ?_
        refine z_cSi (As := [.int x3, .int x5]) (rest := []) hF hK hP hS (c_X3_isIn l D k a hj x3 x5 S _ hm _) (va_cwS 2 hts gX3_addRights_X3_isIn rfl rfl rfl (by decide +kernel) ⟨Nat.le_of_ble_eq_true rfl, Nat.le_of_ble_eq_true rfl⟩) rfl hl.1 rfl (Nat.le_of_ble_eq_true rfl) dX3_addRights_18 ⟨Nat.zero_le _, Nat.zero_le _⟩ (fun r_18 S_18 H locs hm hP hS => ?_)
        refine lv_if_eq (tgt := 41) hx hb dX3_addRights_21 (by decide) (fun c_21 => ?_) (fun c_21 => ?_)
        · have hm := hm.1 c_21
          exact b41 x4 x5 S_18 _ _ _ hm hP hS (lv_sub hl [0, 1, 2, 3, 4, 5] rfl)
        · have hm := hm.2 c_21
          refine lv_iload hx hb dX3_addRights_24 (lv_at hl 4 rfl) ?_
          refine lv_aload_n hx hb dX3_addRights_26 rfl (lv_at hl 1 rfl) ?_
          refine zg_5_right hx hb hts i5 hown hK hP (hts _ (List.mem_of_getElem? (i := 2) rfl)) dX3_addRights_27 ?_
          refine lv_iload hx hb dX3_addRights_30 (lv_at hl 5 rfl) ?_
          obtain ⟨h_32, hm⟩ := hm
          refine z_iald hx hb hK hP zI_12 h_32 dX3_addRights_32 ?_
          refine lv_aload_n hx hb dX3_addRights_33 rfl (lv_at hl 2 rfl) ?_
          refine lv_iload hx hb dX3_addRights_34 (lv_at hl 5 rfl) ?_
          obtain ⟨h_36, hm⟩ := hm
          refine z_iald hx hb hK hP zI_23 h_36 dX3_addRights_36 ?_
          refine lv_imul hx hb dX3_addRights_37 ?_
          refine lv_iadd hx hb dX3_addRights_38 ?_
          refine lv_topi (fun x4_39 ex4_39 => ?_)
          have hm := hm x4_39 ex4_39
          refine lv_istore (lv' := [(4, .int x4_39), (0, .ref (a 5)), (1, .ref (a 1)), (2, .ref (a 23)), (3, .int x3), (5, .int x5)]) hx hb dX3_addRights_39 hl (by decide) rfl (fun ls hl => ?_)
          exact b41 x4_39 x5 S_18 _ _ _ hm hP hS (lv_sub hl [1, 2, 3, 4, 0, 5] rfl)
  unfold X3_addRights at hm
  refine lv_iconst (v := (0 : Int32)) hx hb dX3_addRights_0 (by decide) ?_
  refine lv_istore (lv' := [(4, .int (0 : Int32)), (0, .ref (a 5)), (1, .ref (a 1)), (2, .ref (a 23)), (3, .int y3)]) hx hb dX3_addRights_1 hl (by decide) rfl (fun ls hl => ?_)
  refine lv_iconst (v := (0 : Int32)) hx hb dX3_addRights_3 (by decide) ?_
  refine lv_istore (lv' := [(5, .int (0 : Int32)), (4, .int (0 : Int32)), (0, .ref (a 5)), (1, .ref (a 1)), (2, .ref (a 23)), (3, .int y3)]) hx hb dX3_addRights_4 hl (by decide) rfl (fun ls hl => ?_)
  obtain ⟨n6, hm⟩ := hm
  exact L6 y3 n6 (0 : Int32) (0 : Int32) S _ _ _ hm hP hS (lv_sub hl [2, 3, 4, 5, 1, 0] rfl)

abbrev rm_X3_mayStand : Room := { frames := 1, cells := 0, slots := 0, locals := 21 }
def X3_mayStand_b60 (S : ZS) (Q : Int32 → ZS → Prop) : Prop :=
  zbit (1 : Int32) ∧ Q (1 : Int32) S
def X3_mayStand_b54 (x3 : Int32) (x4 : Int32) (x5 : Int32) (S : ZS) (Q : Int32 → ZS → Prop) (k3 : Int32 × ZS → Prop) : Prop :=
  ∀ x5_54 : Int32, x5_54 = x5 + (1 : Int32) → k3 (x5_54, S)
def X3_mayStand_b52 (S : ZS) (Q : Int32 → ZS → Prop) : Prop :=
  zbit (0 : Int32) ∧ Q (0 : Int32) S
def X3_mayStand_b36 (x3 : Int32) (x4 : Int32) (x5 : Int32) (t0 : Int32) (S : ZS) (Q : Int32 → ZS → Prop) (k3 : Int32 × ZS → Prop) : Prop :=
  (t0 = 0 → X3_mayStand_b54 x3 x4 x5 S Q k3) ∧ (¬ t0 = 0 → vp_in x5 8 ∧ ((S.1 23 (x5).toNatClampNeg) = x4 → X3_mayStand_b54 x3 x4 x5 S Q k3) ∧ (¬ (S.1 23 (x5).toNatClampNeg) = x4 → X3_mayStand_b52 S Q))
def X3_mayStand_b35 (x3 : Int32) (x4 : Int32) (x5 : Int32) (S : ZS) (Q : Int32 → ZS → Prop) (k3 : Int32 × ZS → Prop) : Prop :=
  X3_mayStand_b36 x3 x4 x5 (0 : Int32) S Q k3
def X3_mayStand_B3 (x3 : Int32) (x4 : Int32) (x5 : Int32) (S : ZS) (Q : Int32 → ZS → Prop) (k3 : Int32 × ZS → Prop) : Prop :=
  ((S.1 1 1) ≤ x5 → X3_mayStand_b60 S Q) ∧ (¬ (S.1 1 1) ≤ x5 → vp_in x5 8 ∧ ((S.1 11 (x5).toNatClampNeg) = 0 → X3_isIn x3 x5 S (fun r_25 S_25 => (r_25 = 0 → X3_mayStand_b35 x3 x4 x5 S_25 Q k3) ∧ (¬ r_25 = 0 → X3_mayStand_b36 x3 x4 x5 (1 : Int32) S_25 Q k3))) ∧ (¬ (S.1 11 (x5).toNatClampNeg) = 0 → X3_mayStand_b35 x3 x4 x5 S Q k3))
def X3_mayStand_L3 (x3 : Int32) (x4 : Int32) (Q : Int32 → ZS → Prop) : (Int32 × ZS) → ((Int32 × ZS) → Prop) → Prop := fun st k3 => X3_mayStand_B3 x3 x4 st.1 st.2 Q k3
def X3_mayStand (y3 : Int32) (y4 : Int32) (S : ZS) (Q : Int32 → ZS → Prop) : Prop :=
  zl (X3_mayStand_L3 y3 y4 Q) ((0 : Int32), S)
set_option maxHeartbeats 4000000 in
set_option maxRecDepth 100000 in
theorem c_X3_mayStand (l : Launch) (D : va_G) (k : Nat → ClassId) (a : Nat → Nat) (hj : zDj a) (y3 : Int32) (y4 : Int32) (S : ZS) (Q : Int32 → ZS → Prop) (hm : X3_mayStand y3 y4 S Q) (sz : Nat) : Met l yX3_mayStand wsX3_mayStand rm_X3_mayStand (zPc D k a [.ref (a 5), .ref (a 1), .ref (a 23), .int y3, .int y4] S sz) (va_Qi Q (zB D k a) (zA a sz)) 0 0 (zA a sz) := by
  refine Met.ofW (cc := cX3_mayStand) (maxL := 7) (ret := (some .boolean)) (by decide) rfl ?_
  intro p e s m args below meth c s₁ B hml hv
  obtain ⟨rfl, hsz, hP, hK⟩ := hv
  have hx := B.exec
  have hb := B.bytes
  have hr := B.returns
  have hts := atoms_spec (ws := wsX3_mayStand) B.pre
  have hown : s.vm.findClass RX3 = some m.cls := findClass_of_methodNamed B.named
  have hlocks := B.notSynchronized
  subst hsz
  have hS : va_S (zA a s.heap.size) s.heap s.heap [] := va_S.rf
  have hF : CallFix p m c cX3_mayStand 7 s _ wsX3_mayStand RX3 := ⟨hx, hb, hml, hown, hts⟩
  have i5 : ∀ w ∈ wsX50, w ∈ wsX3_mayStand := fun _ h => (List.mem_cons_of_mem _ (List.mem_append_right _ h))
  have hl := lv_entry ([.ref (a 5), .ref (a 1), .ref (a 23), .int y3, .int y4]) (n := 7) (Nat.le_of_ble_eq_true rfl)
  rw [lg_entry_eq]
  generalize (lg_sl ([.ref (a 5), .ref (a 1), .ref (a 23), .int y3, .int y4]) ++ List.replicate (7 - (lg_sl ([.ref (a 5), .ref (a 1), .ref (a 23), .int y3, .int y4])).length) Slot.unset).toArray = ls at hl ⊢
  have hl : lv_has ls 7 [(0, .ref (a 5)), (1, .ref (a 1)), (2, .ref (a 23)), (3, .int y3), (4, .int y4)] := hl
  have b60 : ∀ (S : ZS) (H : Heap) (locs : List Loc) (ls : Array Slot), X3_mayStand_b60 S Q → va_P D vwCl (zWS k a S) H → va_S (zA a s.heap.size) s.heap H locs → lv_has ls 7 [(0, .ref (a 5)), (1, .ref (a 1)), (2, .ref (a 23))] → zWi p l e (headSpec wsX3_mayStand rm_X3_mayStand).room s m ([.ref (a 5), .ref (a 1), .ref (a 23), .int y3, .int y4] : List Value) below meth c D k a Q H locs (F0 m 60 ls []) := by
    intro S H locs ls hm hP hS hl
    unfold X3_mayStand_b60 at hm
    refine lv_iconst (v := (1 : Int32)) hx hb dX3_mayStand_60 (by decide) ?_
    exact z_retz hx hb hr hlocks hP hS hm dX3_mayStand_61
  have L3 : ∀ (x3 : Int32) (x4 : Int32) (n : Nat) (x5 : Int32) (S : ZS) (H : Heap) (locs : List Loc) (ls : Array Slot), zn (X3_mayStand_L3 x3 x4 Q) n (x5, S) → va_P D vwCl (zWS k a S) H → va_S (zA a s.heap.size) s.heap H locs → lv_has ls 7 [(0, .ref (a 5)), (1, .ref (a 1)), (2, .ref (a 23)), (3, .int x3), (4, .int x4), (5, .int x5)] → zWi p l e (headSpec wsX3_mayStand rm_X3_mayStand).room s m ([.ref (a 5), .ref (a 1), .ref (a 23), .int y3, .int y4] : List Value) below meth c D k a Q H locs (F0 m 3 ls []) := by
    intro x3 x4 n
    induction n with
    | zero =>
      intro x5 S H locs ls hm
      exact hm.elim
    | succ n ih3 =>
      intro x5 S H locs ls hm hP hS hl
      have hm : X3_mayStand_B3 x3 x4 x5 S Q (zn (X3_mayStand_L3 x3 x4 Q) n) := hm
      generalize zn (X3_mayStand_L3 x3 x4 Q) n = k3 at hm ih3
      unfold X3_mayStand_B3 at hm
      have b36 : ∀ (x5 : Int32) (t0 : Int32) (S : ZS) (H : Heap) (locs : List Loc) (ls : Array Slot), X3_mayStand_b36 x3 x4 x5 t0 S Q k3 → va_P D vwCl (zWS k a S) H → va_S (zA a s.heap.size) s.heap H locs → lv_has ls 7 [(0, .ref (a 5)), (1, .ref (a 1)), (2, .ref (a 23)), (3, .int x3), (4, .int x4), (5, .int x5)] → zWi p l e (headSpec wsX3_mayStand rm_X3_mayStand).room s m ([.ref (a 5), .ref (a 1), .ref (a 23), .int y3, .int y4] : List Value) below meth c D k a Q H locs (F0 m 36 ls [.int t0]) := by
        intro x5 t0 S H locs ls hm hP hS hl
        unfold X3_mayStand_b36 at hm
        have b54 : ∀ (x5 : Int32) (S : ZS) (H : Heap) (locs : List Loc) (ls : Array Slot), X3_mayStand_b54 x3 x4 x5 S Q k3 → va_P D vwCl (zWS k a S) H → va_S (zA a s.heap.size) s.heap H locs → lv_has ls 7 [(0, .ref (a 5)), (1, .ref (a 1)), (2, .ref (a 23)), (3, .int x3), (4, .int x4), (5, .int x5)] → zWi p l e (headSpec wsX3_mayStand rm_X3_mayStand).room s m ([.ref (a 5), .ref (a 1), .ref (a 23), .int y3, .int y4] : List Value) below meth c D k a Q H locs (F0 m 54 ls []) := by
          intro x5 S H locs ls hm hP hS hl
          unfold X3_mayStand_b54 at hm
          obtain ⟨x5_54, ex5_54⟩ : ∃ y : Int32, y = x5 + (1 : Int32) := ⟨_, rfl⟩
          have hm := hm x5_54 ex5_54
          refine lv_iinc (v := x5_54) (lv' := [(5, .int x5_54), (0, .ref (a 5)), (1, .ref (a 1)), (2, .ref (a 23)), (3, .int x3), (4, .int x4)]) hx hb dX3_mayStand_54 hl (k := 5) rfl (by rw [ex5_54]; rfl) (by decide) rfl (fun ls hl => ?_)
          refine lv_goto (tgt := 3) hx hb dX3_mayStand_57 (by decide) ?_
          exact ih3 x5_54 S _ _ _ hm hP hS (lv_sub hl [1, 2, 3, 4, 5, 0] rfl)
        have b52 : ∀ (S : ZS) (H : Heap) (locs : List Loc) (ls : Array Slot), X3_mayStand_b52 S Q → va_P D vwCl (zWS k a S) H → va_S (zA a s.heap.size) s.heap H locs → lv_has ls 7 [(0, .ref (a 5)), (1, .ref (a 1)), (2, .ref (a 23))] → zWi p l e (headSpec wsX3_mayStand rm_X3_mayStand).room s m ([.ref (a 5), .ref (a 1), .ref (a 23), .int y3, .int y4] : List Value) below meth c D k a Q H locs (F0 m 52 ls []) := by
          intro S H locs ls hm hP hS hl
          unfold X3_mayStand_b52 at hm
          refine lv_iconst (v := (0 : Int32)) hx hb dX3_mayStand_52 (by decide) ?_
          exact z_retz hx hb hr hlocks hP hS hm dX3_mayStand_53
        refine lv_istore (lv' := [(6, .int t0), (0, .ref (a 5)), (1, .ref (a 1)), (2, .ref (a 23)), (3, .int x3), (4, .int x4), (5, .int x5)]) hx hb dX3_mayStand_36 hl (by decide) rfl (fun ls hl => ?_)
        refine lv_iload hx hb dX3_mayStand_38 (lv_at hl 0 rfl) ?_
        refine lv_if_eq (tgt := 54) hx hb dX3_mayStand_40 (by decide) (fun c_40 => ?_) (fun c_40 => ?_)
        · have hm := hm.1 c_40
          exact b54 x5 S _ _ _ hm hP hS (lv_sub hl [1, 2, 3, 4, 5, 6] rfl)
        · have hm := hm.2 c_40
          refine lv_aload_n hx hb dX3_mayStand_43 rfl (lv_at hl 3 rfl) ?_
          refine lv_iload hx hb dX3_mayStand_44 (lv_at hl 6 rfl) ?_
          obtain ⟨h_46, hm⟩ := hm
          refine z_iald hx hb hK hP zI_23 h_46 dX3_mayStand_46 ?_
          refine lv_iload hx hb dX3_mayStand_47 (lv_at hl 5 rfl) ?_
          refine lv_icmp_eq (tgt := 54) hx hb dX3_mayStand_49 (by decide) (fun c_49 => ?_) (fun c_49 => ?_)
          · have hm := hm.1 c_49
            exact b54 x5 S _ _ _ hm hP hS (lv_sub hl [1, 2, 3, 4, 5, 6] rfl)
          · have hm := hm.2 c_49
            exact b52  S _ _ _ hm hP hS (lv_sub hl [1, 2, 3] rfl)
      have b35 : ∀ (x5 : Int32) (S : ZS) (H : Heap) (locs : List Loc) (ls : Array Slot), X3_mayStand_b35 x3 x4 x5 S Q k3 → va_P D vwCl (zWS k a S) H → va_S (zA a s.heap.size) s.heap H locs → lv_has ls 7 [(0, .ref (a 5)), (1, .ref (a 1)), (2, .ref (a 23)), (3, .int x3), (4, .int x4), (5, .int x5)] → zWi p l e (headSpec wsX3_mayStand rm_X3_mayStand).room s m ([.ref (a 5), .ref (a 1), .ref (a 23), .int y3, .int y4] : List Value) below meth c D k a Q H locs (F0 m 35 ls []) := by
        intro x5 S H locs ls hm hP hS hl
        unfold X3_mayStand_b35 at hm
        refine lv_iconst (v := (0 : Int32)) hx hb dX3_mayStand_35 (by decide) ?_
        exact b36 x5 (0 : Int32) S _ _ _ hm hP hS (lv_sub hl [0, 1, 2, 3, 4, 5] rfl)
      refine lv_iload hx hb dX3_mayStand_3 (lv_at hl 5 rfl) ?_
      refine lv_aload_n hx hb dX3_mayStand_5 rfl (lv_at hl 1 rfl) ?_
      refine zg_5_rows hx hb hts i5 hown hK hP (hts _ (List.mem_of_getElem? (i := 1) rfl)) dX3_mayStand_6 ?_
      refine lv_icmp_ge (tgt := 60) hx hb dX3_mayStand_9 (by decide) (fun c_9 => ?_) (fun c_9 => ?_)
      · have hm := hm.1 c_9
        exact b60  S _ _ _ hm hP hS (lv_sub hl [0, 1, 2] rfl)
      · have hm := hm.2 c_9
        refine lv_aload_n hx hb dX3_mayStand_12 rfl (lv_at hl 1 rfl) ?_
        refine zg_5_kind hx hb hts i5 hown hK hP (hts _ (List.mem_of_getElem? (i := 2) rfl)) dX3_mayStand_13 ?_
        refine lv_iload hx hb dX3_mayStand_16 (lv_at hl 5 rfl) ?_
        obtain ⟨h_18, hm⟩ := hm
        refine z_iald hx hb hK hP zI_11 h_18 dX3_mayStand_18 ?_
        refine lv_if_ne (tgt := 35) hx hb dX3_mayStand_19 (by decide) (fun c_19 => ?_) (fun c_19 => ?_)
        · have hm := hm.2 c_19
          exact b35 x5 S _ _ _ hm hP hS (lv_sub hl [0, 1, 2, 3, 4, 5] rfl)
        · have hm := hm.1 c_19
          refine lv_iload_n hx hb dX3_mayStand_22 rfl (lv_at hl 3 rfl) ?_
          refine lv_iload hx hb dX3_mayStand_23 (lv_at hl 5 rfl) ?_
          refine z_cSi (As := [.int x3, .int x5]) (rest := []) hF hK hP hS (c_X3_isIn l D k a hj x3 x5 S _ hm _) (va_cwS 2 hts gX3_mayStand_X3_isIn rfl rfl rfl (by decide +kernel) ⟨Nat.le_of_ble_eq_true rfl, Nat.le_of_ble_eq_true rfl⟩) rfl hl.1 rfl (Nat.le_of_ble_eq_true rfl) dX3_mayStand_25 ⟨Nat.zero_le _, Nat.zero_le _⟩ (fun r_25 S_25 H locs hm hP hS => ?_)
          refine lv_if_eq (tgt := 35) hx hb dX3_mayStand_28 (by decide) (fun c_28 => ?_) (fun c_28 => ?_)
          · have hm := hm.1 c_28
            exact b35 x5 S_25 _ _ _ hm hP hS (lv_sub hl [0, 1, 2, 3, 4, 5] rfl)
          · have hm := hm.2 c_28
            refine lv_iconst (v := (1 : Int32)) hx hb dX3_mayStand_31 (by decide) ?_
            refine lv_goto (tgt := 36) hx hb dX3_mayStand_32 (by decide) ?_
            exact b36 x5 (1 : Int32) S_25 _ _ _ hm hP hS (lv_sub hl [0, 1, 2, 3, 4, 5] rfl)
  unfold X3_mayStand at hm
  refine lv_iconst (v := (0 : Int32)) hx hb dX3_mayStand_0 (by decide) ?_
  refine lv_istore (lv' := [(5, .int (0 : Int32)), (0, .ref (a 5)), (1, .ref (a 1)), (2, .ref (a 23)), (3, .int y3), (4, .int y4)]) hx hb dX3_mayStand_1 hl (by decide) rfl (fun ls hl => ?_)
  obtain ⟨n3, hm⟩ := hm
  exact L3 y3 y4 n3 (0 : Int32) S _ _ _ hm hP hS (lv_sub hl [1, 2, 3, 4, 5, 0] rfl)

abbrev rm_X3_provingSide : Room := { frames := 2, cells := 0, slots := 0, locals := 47 }
def X3_provingSide_b150 (S : ZS) (Q : Int32 → ZS → Prop) : Prop :=
  Q (0 : Int32) S
def X3_provingSide_b130 (x3 : Int32) (x5 : Int32) (x6 : Int32) (S : ZS) (Q : Int32 → ZS → Prop) : Prop :=
  (x6 ≤ x5 → X3_provingSide_b150 S Q) ∧ (¬ x6 ≤ x5 → X3_mayStand x3 (-1 : Int32) S (fun r_142 S_142 => (r_142 = 0 → X3_provingSide_b150 S_142 Q) ∧ (¬ r_142 = 0 → Q (-1 : Int32) S_142)))
def X3_provingSide_b101 (x3 : Int32) (x4 : Int32) (x5 : Int32) (S : ZS) (Q : Int32 → ZS → Prop) : Prop :=
  X3_addRights x3 S (fun r_105 S_105 => (x4 ≤ r_105 → X3_provingSide_b130 x3 x5 r_105 S_105 Q) ∧ (¬ x4 ≤ r_105 → X3_mayStand x3 (1 : Int32) S_105 (fun r_122 S_122 => (r_122 = 0 → X3_provingSide_b130 x3 x5 r_105 S_122 Q) ∧ (¬ r_122 = 0 → Q (1 : Int32) S_122))))
def X3_provingSide_b92 (x3 : Int32) (x4 : Int32) (x6 : Int32) (t0 : Int32) (t1 : Int32) (S : ZS) (Q : Int32 → ZS → Prop) (k9 : Int32 × Int32 × Int32 × ZS → Prop) : Prop :=
  ∀ x5_93 : Int32, x5_93 = (t1 + t0) → ∀ x6_95 : Int32, x6_95 = x6 + (1 : Int32) → k9 (x4, x5_93, x6_95, S)
def X3_provingSide_b59 (x3 : Int32) (x5 : Int32) (x6 : Int32) (x7 : Int32) (t0 : Int32) (t1 : Int32) (S : ZS) (Q : Int32 → ZS → Prop) (k9 : Int32 × Int32 × Int32 × ZS → Prop) : Prop :=
  ∀ x4_60 : Int32, x4_60 = (t1 + t0) → (x7 ≤ 0 → vp_in x6 10 ∧ X3_provingSide_b92 x3 x4_60 x6 (x7 * (S.1 8 (x6).toNatClampNeg)) x5 S Q k9) ∧ (¬ x7 ≤ 0 → vp_in x6 10 ∧ X3_provingSide_b92 x3 x4_60 x6 (x7 * (S.1 9 (x6).toNatClampNeg)) x5 S Q k9)
def X3_provingSide_B9 (x3 : Int32) (x4 : Int32) (x5 : Int32) (x6 : Int32) (S : ZS) (Q : Int32 → ZS → Prop) (k9 : Int32 × Int32 × Int32 × ZS → Prop) : Prop :=
  ((S.1 1 0) ≤ x6 → X3_provingSide_b101 x3 x4 x5 S Q) ∧ (¬ (S.1 1 0) ≤ x6 → X3_addUp x3 x6 S (fun r_24 S_24 => (r_24 ≤ 0 → vp_in x6 10 ∧ X3_provingSide_b59 x3 x5 x6 r_24 (r_24 * (S_24.1 9 (x6).toNatClampNeg)) x4 S_24 Q k9) ∧ (¬ r_24 ≤ 0 → vp_in x6 10 ∧ X3_provingSide_b59 x3 x5 x6 r_24 (r_24 * (S_24.1 8 (x6).toNatClampNeg)) x4 S_24 Q k9)))
def X3_provingSide_L9 (x3 : Int32) (Q : Int32 → ZS → Prop) : (Int32 × Int32 × Int32 × ZS) → ((Int32 × Int32 × Int32 × ZS) → Prop) → Prop := fun st k9 => X3_provingSide_B9 x3 st.1 st.2.1 st.2.2.1 st.2.2.2 Q k9
def X3_provingSide (y3 : Int32) (S : ZS) (Q : Int32 → ZS → Prop) : Prop :=
  zl (X3_provingSide_L9 y3 Q) ((0 : Int32), (0 : Int32), (0 : Int32), S)
set_option maxHeartbeats 4000000 in
set_option maxRecDepth 100000 in
theorem c_X3_provingSide (l : Launch) (D : va_G) (k : Nat → ClassId) (a : Nat → Nat) (hj : zDj a) (y3 : Int32) (S : ZS) (Q : Int32 → ZS → Prop) (hm : X3_provingSide y3 S Q) (sz : Nat) : Met l yX3_provingSide wsX3_provingSide rm_X3_provingSide (zPc D k a [.ref (a 5), .ref (a 1), .ref (a 23), .int y3] S sz) (va_Qi Q (zB D k a) (zA a sz)) 0 0 (zA a sz) := by
  refine Met.ofW (cc := cX3_provingSide) (maxL := 8) (ret := (some .int)) (by decide) rfl ?_
  intro p e s m args below meth c s₁ B hml hv
  obtain ⟨rfl, hsz, hP, hK⟩ := hv
  have hx := B.exec
  have hb := B.bytes
  have hr := B.returns
  have hts := atoms_spec (ws := wsX3_provingSide) B.pre
  have hown : s.vm.findClass RX3 = some m.cls := findClass_of_methodNamed B.named
  have hlocks := B.notSynchronized
  subst hsz
  have hS : va_S (zA a s.heap.size) s.heap s.heap [] := va_S.rf
  have hF : CallFix p m c cX3_provingSide 8 s _ wsX3_provingSide RX3 := ⟨hx, hb, hml, hown, hts⟩
  have i5 : ∀ w ∈ wsX50, w ∈ wsX3_provingSide := fun _ h => (List.mem_cons_of_mem _ (List.mem_append_right _ h))
  have hl := lv_entry ([.ref (a 5), .ref (a 1), .ref (a 23), .int y3]) (n := 8) (Nat.le_of_ble_eq_true rfl)
  rw [lg_entry_eq]
  generalize (lg_sl ([.ref (a 5), .ref (a 1), .ref (a 23), .int y3]) ++ List.replicate (8 - (lg_sl ([.ref (a 5), .ref (a 1), .ref (a 23), .int y3])).length) Slot.unset).toArray = ls at hl ⊢
  have hl : lv_has ls 8 [(0, .ref (a 5)), (1, .ref (a 1)), (2, .ref (a 23)), (3, .int y3)] := hl
  have b101 : ∀ (x3 : Int32) (x4 : Int32) (x5 : Int32) (S : ZS) (H : Heap) (locs : List Loc) (ls : Array Slot), X3_provingSide_b101 x3 x4 x5 S Q → va_P D vwCl (zWS k a S) H → va_S (zA a s.heap.size) s.heap H locs → lv_has ls 8 [(0, .ref (a 5)), (1, .ref (a 1)), (2, .ref (a 23)), (3, .int x3), (4, .int x4), (5, .int x5)] → zWi p l e (headSpec wsX3_provingSide rm_X3_provingSide).room s m ([.ref (a 5), .ref (a 1), .ref (a 23), .int y3] : List Value) below meth c D k a Q H locs (F0 m 101 ls []) := by
    intro x3 x4 x5 S H locs ls hm hP hS hl
    unfold X3_provingSide_b101 at hm
    have b130 : ∀ (x3 : Int32) (x5 : Int32) (x6 : Int32) (S : ZS) (H : Heap) (locs : List Loc) (ls : Array Slot), X3_provingSide_b130 x3 x5 x6 S Q → va_P D vwCl (zWS k a S) H → va_S (zA a s.heap.size) s.heap H locs → lv_has ls 8 [(0, .ref (a 5)), (1, .ref (a 1)), (2, .ref (a 23)), (3, .int x3), (5, .int x5), (6, .int x6)] → zWi p l e (headSpec wsX3_provingSide rm_X3_provingSide).room s m ([.ref (a 5), .ref (a 1), .ref (a 23), .int y3] : List Value) below meth c D k a Q H locs (F0 m 130 ls []) := by
      intro x3 x5 x6 S H locs ls hm hP hS hl
      unfold X3_provingSide_b130 at hm
      have b150 : ∀ (S : ZS) (H : Heap) (locs : List Loc) (ls : Array Slot), X3_provingSide_b150 S Q → va_P D vwCl (zWS k a S) H → va_S (zA a s.heap.size) s.heap H locs → lv_has ls 8 [(0, .ref (a 5)), (1, .ref (a 1)), (2, .ref (a 23))] → zWi p l e (headSpec wsX3_provingSide rm_X3_provingSide).room s m ([.ref (a 5), .ref (a 1), .ref (a 23), .int y3] : List Value) below meth c D k a Q H locs (F0 m 150 ls []) := by
        intro S H locs ls hm hP hS hl
        unfold X3_provingSide_b150 at hm
        refine lv_iconst (v := (0 : Int32)) hx hb dX3_provingSide_150 (by decide) ?_
        exact z_reti hx hb hr hlocks hP hS hm dX3_provingSide_151
      refine lv_iload hx hb dX3_provingSide_130 (lv_at hl 4 rfl) ?_
      refine lv_iload hx hb dX3_provingSide_132 (lv_at hl 5 rfl) ?_
      refine lv_icmp_ge (tgt := 150) hx hb dX3_provingSide_134 (by decide) (fun c_134 => ?_) (fun c_134 => ?_)
      · have hm := hm.1 c_134
        exact b150  S _ _ _ hm hP hS (lv_sub hl [0, 1, 2] rfl)
      · have hm := hm.2 c_134
        refine lv_aload_n hx hb dX3_provingSide_137 rfl (lv_at hl 0 rfl) ?_
        refine lv_aload_n hx hb dX3_provingSide_138 rfl (lv_at hl 1 rfl) ?_
        refine lv_aload_n hx hb dX3_provingSide_139 rfl (lv_at hl 2 rfl) ?_
        refine lv_iload_n hx hb dX3_provingSide_140 rfl (lv_at hl 3 rfl) ?_
        refine lv_iconst (v := (-1 : Int32)) hx hb dX3_provingSide_141 (by decide) ?_
        refine z_cVi (As := [.ref (a 1), .ref (a 23), .int x3, .int (-1 : Int32)]) (rest := []) hF hK hP hS zO_5 rfl rfl (c_X3_mayStand l D k a hj x3 (-1 : Int32) S _ hm _) (cwV 4 hts gX3_provingSide_X3_mayStand rfl rfl rfl (by decide +kernel) ⟨Nat.le_of_ble_eq_true rfl, Nat.le_of_ble_eq_true rfl⟩) rfl hl.1 rfl (Nat.le_of_ble_eq_true rfl) dX3_provingSide_142 ⟨Nat.zero_le _, Nat.zero_le _⟩ (fun r_142 S_142 H locs hm hP hS => ?_)
        refine lv_if_eq (tgt := 150) hx hb dX3_provingSide_145 (by decide) (fun c_145 => ?_) (fun c_145 => ?_)
        · have hm := hm.1 c_145
          exact b150  S_142 _ _ _ hm hP hS (lv_sub hl [0, 1, 2] rfl)
        · have hm := hm.2 c_145
          refine lv_iconst (v := (-1 : Int32)) hx hb dX3_provingSide_148 (by decide) ?_
          exact z_reti hx hb hr hlocks hP hS hm dX3_provingSide_149
    refine lv_aload_n hx hb dX3_provingSide_101 rfl (lv_at hl 0 rfl) ?_
    refine lv_aload_n hx hb dX3_provingSide_102 rfl (lv_at hl 1 rfl) ?_
    refine lv_aload_n hx hb dX3_provingSide_103 rfl (lv_at hl 2 rfl) ?_
    refine lv_iload_n hx hb dX3_provingSide_104 rfl (lv_at hl 3 rfl) ?_
    refine z_cVi (As := [.ref (a 1), .ref (a 23), .int x3]) (rest := []) hF hK hP hS zO_5 rfl rfl (c_X3_addRights l D k a hj x3 S _ hm _) (cwV 3 hts gX3_provingSide_X3_addRights rfl rfl rfl (by decide +kernel) ⟨Nat.le_of_ble_eq_true rfl, Nat.le_of_ble_eq_true rfl⟩) rfl hl.1 rfl (Nat.le_of_ble_eq_true rfl) dX3_provingSide_105 ⟨Nat.zero_le _, Nat.zero_le _⟩ (fun r_105 S_105 H locs hm hP hS => ?_)
    refine lv_istore (lv' := [(6, .int r_105), (0, .ref (a 5)), (1, .ref (a 1)), (2, .ref (a 23)), (3, .int x3), (4, .int x4), (5, .int x5)]) hx hb dX3_provingSide_108 hl (by decide) rfl (fun ls hl => ?_)
    refine lv_iload hx hb dX3_provingSide_110 (lv_at hl 5 rfl) ?_
    refine lv_iload hx hb dX3_provingSide_112 (lv_at hl 0 rfl) ?_
    refine lv_icmp_le (tgt := 130) hx hb dX3_provingSide_114 (by decide) (fun c_114 => ?_) (fun c_114 => ?_)
    · have hm := hm.1 c_114
      exact b130 x3 x5 r_105 S_105 _ _ _ hm hP hS (lv_sub hl [1, 2, 3, 4, 6, 0] rfl)
    · have hm := hm.2 c_114
      refine lv_aload_n hx hb dX3_provingSide_117 rfl (lv_at hl 1 rfl) ?_
      refine lv_aload_n hx hb dX3_provingSide_118 rfl (lv_at hl 2 rfl) ?_
      refine lv_aload_n hx hb dX3_provingSide_119 rfl (lv_at hl 3 rfl) ?_
      refine lv_iload_n hx hb dX3_provingSide_120 rfl (lv_at hl 4 rfl) ?_
      refine lv_iconst (v := (1 : Int32)) hx hb dX3_provingSide_121 (by decide) ?_
      refine z_cVi (As := [.ref (a 1), .ref (a 23), .int x3, .int (1 : Int32)]) (rest := []) hF hK hP hS zO_5 rfl rfl (c_X3_mayStand l D k a hj x3 (1 : Int32) S_105 _ hm _) (cwV 4 hts gX3_provingSide_X3_mayStand rfl rfl rfl (by decide +kernel) ⟨Nat.le_of_ble_eq_true rfl, Nat.le_of_ble_eq_true rfl⟩) rfl hl.1 rfl (Nat.le_of_ble_eq_true rfl) dX3_provingSide_122 ⟨Nat.zero_le _, Nat.zero_le _⟩ (fun r_122 S_122 H locs hm hP hS => ?_)
      refine lv_if_eq (tgt := 130) hx hb dX3_provingSide_125 (by decide) (fun c_125 => ?_) (fun c_125 => ?_)
      · have hm := hm.1 c_125
        exact b130 x3 x5 r_105 S_122 _ _ _ hm hP hS (lv_sub hl [1, 2, 3, 4, 6, 0] rfl)
      · have hm := hm.2 c_125
        refine lv_iconst (v := (1 : Int32)) hx hb dX3_provingSide_128 (by decide) ?_
        exact z_reti hx hb hr hlocks hP hS hm dX3_provingSide_129
  have L9 : ∀ (x3 : Int32) (n : Nat) (x4 : Int32) (x5 : Int32) (x6 : Int32) (S : ZS) (H : Heap) (locs : List Loc) (ls : Array Slot), zn (X3_provingSide_L9 x3 Q) n (x4, x5, x6, S) → va_P D vwCl (zWS k a S) H → va_S (zA a s.heap.size) s.heap H locs → lv_has ls 8 [(0, .ref (a 5)), (1, .ref (a 1)), (2, .ref (a 23)), (3, .int x3), (4, .int x4), (5, .int x5), (6, .int x6)] → zWi p l e (headSpec wsX3_provingSide rm_X3_provingSide).room s m ([.ref (a 5), .ref (a 1), .ref (a 23), .int y3] : List Value) below meth c D k a Q H locs (F0 m 9 ls []) := by
    intro x3 n
    induction n with
    | zero =>
      intro x4 x5 x6 S H locs ls hm
      exact hm.elim
    | succ n ih9 =>
      intro x4 x5 x6 S H locs ls hm hP hS hl
      have hm : X3_provingSide_B9 x3 x4 x5 x6 S Q (zn (X3_provingSide_L9 x3 Q) n) := hm
      generalize zn (X3_provingSide_L9 x3 Q) n = k9 at hm ih9
      unfold X3_provingSide_B9 at hm
      have b59 : ∀ (x5 : Int32) (x6 : Int32) (x7 : Int32) (t0 : Int32) (t1 : Int32) (S : ZS) (H : Heap) (locs : List Loc) (ls : Array Slot), X3_provingSide_b59 x3 x5 x6 x7 t0 t1 S Q k9 → va_P D vwCl (zWS k a S) H → va_S (zA a s.heap.size) s.heap H locs → lv_has ls 8 [(0, .ref (a 5)), (1, .ref (a 1)), (2, .ref (a 23)), (3, .int x3), (5, .int x5), (6, .int x6), (7, .int x7)] → zWi p l e (headSpec wsX3_provingSide rm_X3_provingSide).room s m ([.ref (a 5), .ref (a 1), .ref (a 23), .int y3] : List Value) below meth c D k a Q H locs (F0 m 59 ls [.int t0, .int t1]) := by
        intro x5 x6 x7 t0 t1 S H locs ls hm hP hS hl
        unfold X3_provingSide_b59 at hm
        have b92 : ∀ (x4 : Int32) (x6 : Int32) (t0 : Int32) (t1 : Int32) (S : ZS) (H : Heap) (locs : List Loc) (ls : Array Slot), X3_provingSide_b92 x3 x4 x6 t0 t1 S Q k9 → va_P D vwCl (zWS k a S) H → va_S (zA a s.heap.size) s.heap H locs → lv_has ls 8 [(0, .ref (a 5)), (1, .ref (a 1)), (2, .ref (a 23)), (3, .int x3), (4, .int x4), (6, .int x6)] → zWi p l e (headSpec wsX3_provingSide rm_X3_provingSide).room s m ([.ref (a 5), .ref (a 1), .ref (a 23), .int y3] : List Value) below meth c D k a Q H locs (F0 m 92 ls [.int t0, .int t1]) := by
          intro x4 x6 t0 t1 S H locs ls hm hP hS hl
          unfold X3_provingSide_b92 at hm
          refine lv_iadd hx hb dX3_provingSide_92 ?_
          refine lv_topi (fun x5_93 ex5_93 => ?_)
          have hm := hm x5_93 ex5_93
          refine lv_istore (lv' := [(5, .int x5_93), (0, .ref (a 5)), (1, .ref (a 1)), (2, .ref (a 23)), (3, .int x3), (4, .int x4), (6, .int x6)]) hx hb dX3_provingSide_93 hl (by decide) rfl (fun ls hl => ?_)
          obtain ⟨x6_95, ex6_95⟩ : ∃ y : Int32, y = x6 + (1 : Int32) := ⟨_, rfl⟩
          have hm := hm x6_95 ex6_95
          refine lv_iinc (v := x6_95) (lv' := [(6, .int x6_95), (5, .int x5_93), (0, .ref (a 5)), (1, .ref (a 1)), (2, .ref (a 23)), (3, .int x3), (4, .int x4)]) hx hb dX3_provingSide_95 hl (k := 6) rfl (by rw [ex6_95]; rfl) (by decide) rfl (fun ls hl => ?_)
          refine lv_goto (tgt := 9) hx hb dX3_provingSide_98 (by decide) ?_
          exact ih9 x4 x5_93 x6_95 S _ _ _ hm hP hS (lv_sub hl [2, 3, 4, 5, 6, 1, 0] rfl)
        refine lv_iadd hx hb dX3_provingSide_59 ?_
        refine lv_topi (fun x4_60 ex4_60 => ?_)
        have hm := hm x4_60 ex4_60
        refine lv_istore (lv' := [(4, .int x4_60), (0, .ref (a 5)), (1, .ref (a 1)), (2, .ref (a 23)), (3, .int x3), (5, .int x5), (6, .int x6), (7, .int x7)]) hx hb dX3_provingSide_60 hl (by decide) rfl (fun ls hl => ?_)
        refine lv_iload hx hb dX3_provingSide_62 (lv_at hl 5 rfl) ?_
        refine lv_iload hx hb dX3_provingSide_64 (lv_at hl 7 rfl) ?_
        refine lv_if_le (tgt := 82) hx hb dX3_provingSide_66 (by decide) (fun c_66 => ?_) (fun c_66 => ?_)
        · have hm := hm.1 c_66
          refine lv_iload hx hb dX3_provingSide_82 (lv_at hl 7 rfl) ?_
          refine lv_aload_n hx hb dX3_provingSide_84 rfl (lv_at hl 2 rfl) ?_
          refine zg_5_low hx hb hts i5 hown hK hP (hts _ (List.mem_of_getElem? (i := 2) rfl)) dX3_provingSide_85 ?_
          refine lv_iload hx hb dX3_provingSide_88 (lv_at hl 6 rfl) ?_
          obtain ⟨h_90, hm⟩ := hm
          refine z_iald hx hb hK hP zI_8 h_90 dX3_provingSide_90 ?_
          refine lv_imul hx hb dX3_provingSide_91 ?_
          exact b92 x4_60 x6 (x7 * (S.1 8 (x6).toNatClampNeg)) x5 S _ _ _ hm hP hS (lv_sub hl [1, 2, 3, 4, 0, 6] rfl)
        · have hm := hm.2 c_66
          refine lv_iload hx hb dX3_provingSide_69 (lv_at hl 7 rfl) ?_
          refine lv_aload_n hx hb dX3_provingSide_71 rfl (lv_at hl 2 rfl) ?_
          refine zg_5_high hx hb hts i5 hown hK hP (hts _ (List.mem_of_getElem? (i := 3) rfl)) dX3_provingSide_72 ?_
          refine lv_iload hx hb dX3_provingSide_75 (lv_at hl 6 rfl) ?_
          obtain ⟨h_77, hm⟩ := hm
          refine z_iald hx hb hK hP zI_9 h_77 dX3_provingSide_77 ?_
          refine lv_imul hx hb dX3_provingSide_78 ?_
          refine lv_goto (tgt := 92) hx hb dX3_provingSide_79 (by decide) ?_
          exact b92 x4_60 x6 (x7 * (S.1 9 (x6).toNatClampNeg)) x5 S _ _ _ hm hP hS (lv_sub hl [1, 2, 3, 4, 0, 6] rfl)
      refine lv_iload hx hb dX3_provingSide_9 (lv_at hl 6 rfl) ?_
      refine lv_aload_n hx hb dX3_provingSide_11 rfl (lv_at hl 1 rfl) ?_
      refine zg_5_columns hx hb hts i5 hown hK hP (hts _ (List.mem_of_getElem? (i := 1) rfl)) dX3_provingSide_12 ?_
      refine lv_icmp_ge (tgt := 101) hx hb dX3_provingSide_15 (by decide) (fun c_15 => ?_) (fun c_15 => ?_)
      · have hm := hm.1 c_15
        exact b101 x3 x4 x5 S _ _ _ hm hP hS (lv_sub hl [0, 1, 2, 3, 4, 5] rfl)
      · have hm := hm.2 c_15
        refine lv_aload_n hx hb dX3_provingSide_18 rfl (lv_at hl 0 rfl) ?_
        refine lv_aload_n hx hb dX3_provingSide_19 rfl (lv_at hl 1 rfl) ?_
        refine lv_aload_n hx hb dX3_provingSide_20 rfl (lv_at hl 2 rfl) ?_
        refine lv_iload_n hx hb dX3_provingSide_21 rfl (lv_at hl 3 rfl) ?_
        refine lv_iload hx hb dX3_provingSide_22 (lv_at hl 6 rfl) ?_
        refine z_cVi (As := [.ref (a 1), .ref (a 23), .int x3, .int x6]) (rest := []) hF hK hP hS zO_5 rfl rfl (c_X3_addUp l D k a hj x3 x6 S _ hm _) (cwV 4 hts gX3_provingSide_X3_addUp rfl rfl rfl (by decide +kernel) ⟨Nat.le_of_ble_eq_true rfl, Nat.le_of_ble_eq_true rfl⟩) rfl hl.1 rfl (Nat.le_of_ble_eq_true rfl) dX3_provingSide_24 ⟨Nat.zero_le _, Nat.zero_le _⟩ (fun r_24 S_24 H locs hm hP hS => ?_)
        refine lv_istore (lv' := [(7, .int r_24), (0, .ref (a 5)), (1, .ref (a 1)), (2, .ref (a 23)), (3, .int x3), (4, .int x4), (5, .int x5), (6, .int x6)]) hx hb dX3_provingSide_27 hl (by decide) rfl (fun ls hl => ?_)
        refine lv_iload hx hb dX3_provingSide_29 (lv_at hl 5 rfl) ?_
        refine lv_iload hx hb dX3_provingSide_31 (lv_at hl 0 rfl) ?_
        refine lv_if_le (tgt := 49) hx hb dX3_provingSide_33 (by decide) (fun c_33 => ?_) (fun c_33 => ?_)
        · have hm := hm.1 c_33
          refine lv_iload hx hb dX3_provingSide_49 (lv_at hl 0 rfl) ?_
          refine lv_aload_n hx hb dX3_provingSide_51 rfl (lv_at hl 2 rfl) ?_
          refine zg_5_high hx hb hts i5 hown hK hP (hts _ (List.mem_of_getElem? (i := 3) rfl)) dX3_provingSide_52 ?_
          refine lv_iload hx hb dX3_provingSide_55 (lv_at hl 7 rfl) ?_
          obtain ⟨h_57, hm⟩ := hm
          refine z_iald hx hb hK hP zI_9 h_57 dX3_provingSide_57 ?_
          refine lv_imul hx hb dX3_provingSide_58 ?_
          exact b59 x5 x6 r_24 (r_24 * (S_24.1 9 (x6).toNatClampNeg)) x4 S_24 _ _ _ hm hP hS (lv_sub hl [1, 2, 3, 4, 6, 7, 0] rfl)
        · have hm := hm.2 c_33
          refine lv_iload hx hb dX3_provingSide_36 (lv_at hl 0 rfl) ?_
          refine lv_aload_n hx hb dX3_provingSide_38 rfl (lv_at hl 2 rfl) ?_
          refine zg_5_low hx hb hts i5 hown hK hP (hts _ (List.mem_of_getElem? (i := 2) rfl)) dX3_provingSide_39 ?_
          refine lv_iload hx hb dX3_provingSide_42 (lv_at hl 7 rfl) ?_
          obtain ⟨h_44, hm⟩ := hm
          refine z_iald hx hb hK hP zI_8 h_44 dX3_provingSide_44 ?_
          refine lv_imul hx hb dX3_provingSide_45 ?_
          refine lv_goto (tgt := 59) hx hb dX3_provingSide_46 (by decide) ?_
          exact b59 x5 x6 r_24 (r_24 * (S_24.1 8 (x6).toNatClampNeg)) x4 S_24 _ _ _ hm hP hS (lv_sub hl [1, 2, 3, 4, 6, 7, 0] rfl)
  unfold X3_provingSide at hm
  refine lv_iconst (v := (0 : Int32)) hx hb dX3_provingSide_0 (by decide) ?_
  refine lv_istore (lv' := [(4, .int (0 : Int32)), (0, .ref (a 5)), (1, .ref (a 1)), (2, .ref (a 23)), (3, .int y3)]) hx hb dX3_provingSide_1 hl (by decide) rfl (fun ls hl => ?_)
  refine lv_iconst (v := (0 : Int32)) hx hb dX3_provingSide_3 (by decide) ?_
  refine lv_istore (lv' := [(5, .int (0 : Int32)), (4, .int (0 : Int32)), (0, .ref (a 5)), (1, .ref (a 1)), (2, .ref (a 23)), (3, .int y3)]) hx hb dX3_provingSide_4 hl (by decide) rfl (fun ls hl => ?_)
  refine lv_iconst (v := (0 : Int32)) hx hb dX3_provingSide_6 (by decide) ?_
  refine lv_istore (lv' := [(6, .int (0 : Int32)), (5, .int (0 : Int32)), (4, .int (0 : Int32)), (0, .ref (a 5)), (1, .ref (a 1)), (2, .ref (a 23)), (3, .int y3)]) hx hb dX3_provingSide_7 hl (by decide) rfl (fun ls hl => ?_)
  obtain ⟨n9, hm⟩ := hm
  exact L9 y3 n9 (0 : Int32) (0 : Int32) (0 : Int32) S _ _ _ hm hP hS (lv_sub hl [3, 4, 5, 6, 2, 1, 0] rfl)

abbrev rm_X3_search : Room := { frames := 3, cells := 0, slots := 0, locals := 74 }
def X3_search_b51 (S : ZS) (Q : ZS → Prop) : Prop :=
  Q S
def X3_search_B12 (x3 : Int32) (S : ZS) (Q : ZS → Prop) (k12 : Int32 × ZS → Prop) : Prop :=
  ((S.1 5 1) = 0 → (((1 : Int32) <<< ((S.1 1 1) &&& 31)) ≤ x3 → X3_search_b51 S Q) ∧ (¬ ((1 : Int32) <<< ((S.1 1 1) &&& 31)) ≤ x3 → ∀ S_31 : ZS, S_31 = zu S 5 0 x3 → X3_provingSide x3 S_31 (fun r_39 S_39 => ∀ S_42 : ZS, S_42 = zu S_39 5 1 r_39 → ∀ x3_45 : Int32, x3_45 = x3 + (1 : Int32) → k12 (x3_45, S_42)))) ∧ (¬ (S.1 5 1) = 0 → X3_search_b51 S Q)
def X3_search_L12 (Q : ZS → Prop) : (Int32 × ZS) → ((Int32 × ZS) → Prop) → Prop := fun st k12 => X3_search_B12 st.1 st.2 Q k12
def X3_search (S : ZS) (Q : ZS → Prop) : Prop :=
  ∀ S_2 : ZS, S_2 = zu S 5 0 (0 : Int32) → ∀ S_7 : ZS, S_7 = zu S_2 5 1 (0 : Int32) → zl (X3_search_L12 Q) ((1 : Int32), S_7)
set_option maxHeartbeats 4000000 in
set_option maxRecDepth 100000 in
theorem c_X3_search (l : Launch) (D : va_G) (k : Nat → ClassId) (a : Nat → Nat) (hj : zDj a) (S : ZS) (Q : ZS → Prop) (hm : X3_search S Q) (sz : Nat) : Met l yX3_search wsX3_search rm_X3_search (zPc D k a [.ref (a 5), .ref (a 1), .ref (a 23)] S sz) (va_Qv Q (zB D k a) (zA a sz)) 0 0 (zA a sz) := by
  refine Met.ofW (cc := cX3_search) (maxL := 4) (ret := none) (by decide) rfl ?_
  intro p e s m args below meth c s₁ B hml hv
  obtain ⟨rfl, hsz, hP, hK⟩ := hv
  have hx := B.exec
  have hb := B.bytes
  have hr := B.returns
  have hts := atoms_spec (ws := wsX3_search) B.pre
  have hown : s.vm.findClass RX3 = some m.cls := findClass_of_methodNamed B.named
  have hlocks := B.notSynchronized
  subst hsz
  have hS : va_S (zA a s.heap.size) s.heap s.heap [] := va_S.rf
  have hF : CallFix p m c cX3_search 4 s _ wsX3_search RX3 := ⟨hx, hb, hml, hown, hts⟩
  have i3 : ∀ w ∈ wsX30, w ∈ wsX3_search := fun _ h => (List.mem_cons_of_mem _ (List.mem_append_left _ (List.mem_append_right _ h)))
  have i5 : ∀ w ∈ wsX50, w ∈ wsX3_search := fun _ h => (List.mem_cons_of_mem _ (List.mem_append_right _ h))
  have hl := lv_entry ([.ref (a 5), .ref (a 1), .ref (a 23)]) (n := 4) (Nat.le_of_ble_eq_true rfl)
  rw [lg_entry_eq]
  generalize (lg_sl ([.ref (a 5), .ref (a 1), .ref (a 23)]) ++ List.replicate (4 - (lg_sl ([.ref (a 5), .ref (a 1), .ref (a 23)])).length) Slot.unset).toArray = ls at hl ⊢
  have hl : lv_has ls 4 [(0, .ref (a 5)), (1, .ref (a 1)), (2, .ref (a 23))] := hl
  have b51 : ∀ (S : ZS) (H : Heap) (locs : List Loc) (ls : Array Slot), X3_search_b51 S Q → va_P D vwCl (zWS k a S) H → va_S (zA a s.heap.size) s.heap H locs → lv_has ls 4 [(0, .ref (a 5)), (1, .ref (a 1)), (2, .ref (a 23))] → zWv p l e (headSpec wsX3_search rm_X3_search).room s m ([.ref (a 5), .ref (a 1), .ref (a 23)] : List Value) below meth c D k a Q H locs (F0 m 51 ls []) := by
    intro S H locs ls hm hP hS hl
    unfold X3_search_b51 at hm
    exact z_retv hx hb hr hlocks hP hS hm dX3_search_51
  have L12 : ∀ (n : Nat) (x3 : Int32) (S : ZS) (H : Heap) (locs : List Loc) (ls : Array Slot), zn (X3_search_L12 Q) n (x3, S) → va_P D vwCl (zWS k a S) H → va_S (zA a s.heap.size) s.heap H locs → lv_has ls 4 [(0, .ref (a 5)), (1, .ref (a 1)), (2, .ref (a 23)), (3, .int x3)] → zWv p l e (headSpec wsX3_search rm_X3_search).room s m ([.ref (a 5), .ref (a 1), .ref (a 23)] : List Value) below meth c D k a Q H locs (F0 m 12 ls []) := by
    intro n
    induction n with
    | zero =>
      intro x3 S H locs ls hm
      exact hm.elim
    | succ n ih12 =>
      intro x3 S H locs ls hm hP hS hl
      have hm : X3_search_B12 x3 S Q (zn (X3_search_L12 Q) n) := hm
      generalize zn (X3_search_L12 Q) n = k12 at hm ih12
      unfold X3_search_B12 at hm
      refine lv_aload_n hx hb dX3_search_12 rfl (lv_at hl 0 rfl) ?_
      refine zg_3_ofSide hx hb hts i3 hown hK hP (hts _ (List.mem_of_getElem? (i := 2) rfl)) dX3_search_13 ?_
      refine lv_if_ne (tgt := 51) hx hb dX3_search_16 (by decide) (fun c_16 => ?_) (fun c_16 => ?_)
      · have hm := hm.2 c_16
        exact b51  S _ _ _ hm hP hS (lv_sub hl [0, 1, 2] rfl)
      · have hm := hm.1 c_16
        refine lv_iload_n hx hb dX3_search_19 rfl (lv_at hl 3 rfl) ?_
        refine lv_iconst (v := (1 : Int32)) hx hb dX3_search_20 (by decide) ?_
        refine lv_aload_n hx hb dX3_search_21 rfl (lv_at hl 1 rfl) ?_
        refine zg_5_rows hx hb hts i5 hown hK hP (hts _ (List.mem_of_getElem? (i := 3) rfl)) dX3_search_22 ?_
        refine lv_ishl hx hb dX3_search_25 ?_
        refine lv_icmp_ge (tgt := 51) hx hb dX3_search_26 (by decide) (fun c_26 => ?_) (fun c_26 => ?_)
        · have hm := hm.1 c_26
          exact b51  S _ _ _ hm hP hS (lv_sub hl [0, 1, 2] rfl)
        · have hm := hm.2 c_26
          refine lv_aload_n hx hb dX3_search_29 rfl (lv_at hl 0 rfl) ?_
          refine lv_iload_n hx hb dX3_search_30 rfl (lv_at hl 3 rfl) ?_
          refine zp_3_rowSet hx hb hts i3 hown hj hK hP hS (hts _ (List.mem_of_getElem? (i := 1) rfl)) dX3_search_31 (fun H locs hP hS => ?_)
          obtain ⟨S_31, eS_31⟩ : ∃ z : ZS, z = zu S 5 0 x3 := ⟨_, rfl⟩
          rw [← eS_31] at hP
          have hm := hm S_31 eS_31
          refine lv_aload_n hx hb dX3_search_34 rfl (lv_at hl 0 rfl) ?_
          refine lv_aload_n hx hb dX3_search_35 rfl (lv_at hl 0 rfl) ?_
          refine lv_aload_n hx hb dX3_search_36 rfl (lv_at hl 1 rfl) ?_
          refine lv_aload_n hx hb dX3_search_37 rfl (lv_at hl 2 rfl) ?_
          refine lv_iload_n hx hb dX3_search_38 rfl (lv_at hl 3 rfl) ?_
          refine z_cVi (As := [.ref (a 1), .ref (a 23), .int x3]) (rest := [.ref (a 5)]) hF hK hP hS zO_5 rfl rfl (c_X3_provingSide l D k a hj x3 S_31 _ hm _) (cwV 3 hts gX3_search_X3_provingSide rfl rfl rfl (by decide +kernel) ⟨Nat.le_of_ble_eq_true rfl, Nat.le_of_ble_eq_true rfl⟩) rfl hl.1 rfl (Nat.le_of_ble_eq_true rfl) dX3_search_39 ⟨Nat.zero_le _, Nat.zero_le _⟩ (fun r_39 S_39 H locs hm hP hS => ?_)
          refine zp_3_ofSide hx hb hts i3 hown hj hK hP hS (hts _ (List.mem_of_getElem? (i := 2) rfl)) dX3_search_42 (fun H locs hP hS => ?_)
          obtain ⟨S_42, eS_42⟩ : ∃ z : ZS, z = zu S_39 5 1 r_39 := ⟨_, rfl⟩
          rw [← eS_42] at hP
          have hm := hm S_42 eS_42
          obtain ⟨x3_45, ex3_45⟩ : ∃ y : Int32, y = x3 + (1 : Int32) := ⟨_, rfl⟩
          have hm := hm x3_45 ex3_45
          refine lv_iinc (v := x3_45) (lv' := [(3, .int x3_45), (0, .ref (a 5)), (1, .ref (a 1)), (2, .ref (a 23))]) hx hb dX3_search_45 hl (k := 3) rfl (by rw [ex3_45]; rfl) (by decide) rfl (fun ls hl => ?_)
          refine lv_goto (tgt := 12) hx hb dX3_search_48 (by decide) ?_
          exact ih12 x3_45 S_42 _ _ _ hm hP hS (lv_sub hl [1, 2, 3, 0] rfl)
  unfold X3_search at hm
  refine lv_aload_n hx hb dX3_search_0 rfl (lv_at hl 0 rfl) ?_
  refine lv_iconst (v := (0 : Int32)) hx hb dX3_search_1 (by decide) ?_
  refine zp_3_rowSet hx hb hts i3 hown hj hK hP hS (hts _ (List.mem_of_getElem? (i := 1) rfl)) dX3_search_2 (fun H locs hP hS => ?_)
  obtain ⟨S_2, eS_2⟩ : ∃ z : ZS, z = zu S 5 0 (0 : Int32) := ⟨_, rfl⟩
  rw [← eS_2] at hP
  have hm := hm S_2 eS_2
  refine lv_aload_n hx hb dX3_search_5 rfl (lv_at hl 0 rfl) ?_
  refine lv_iconst (v := (0 : Int32)) hx hb dX3_search_6 (by decide) ?_
  refine zp_3_ofSide hx hb hts i3 hown hj hK hP hS (hts _ (List.mem_of_getElem? (i := 2) rfl)) dX3_search_7 (fun H locs hP hS => ?_)
  obtain ⟨S_7, eS_7⟩ : ∃ z : ZS, z = zu S_2 5 1 (0 : Int32) := ⟨_, rfl⟩
  rw [← eS_7] at hP
  have hm := hm S_7 eS_7
  refine lv_iconst (v := (1 : Int32)) hx hb dX3_search_10 (by decide) ?_
  refine lv_istore_n (lv' := [(3, .int (1 : Int32)), (0, .ref (a 5)), (1, .ref (a 1)), (2, .ref (a 23))]) hx hb dX3_search_11 rfl hl (by decide) rfl (fun ls hl => ?_)
  obtain ⟨n12, hm⟩ := hm
  exact L12 n12 (1 : Int32) S_7 _ _ _ hm hP hS (lv_sub hl [1, 2, 3, 0] rfl)

