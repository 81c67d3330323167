abbrev rm_X7_isPlain : Room := { frames := 1, cells := 0, slots := 0, locals := 25 }
def X7_isPlain_b81 (t0 : Int32) (S : ZS) (Q : Int32 → ZS → Prop) : Prop :=
  zbit t0 ∧ Q t0 S
def X7_isPlain_b80 (S : ZS) (Q : Int32 → ZS → Prop) : Prop :=
  X7_isPlain_b81 (0 : Int32) S Q
def X7_isPlain_b67 (x2 : Int32) (x3 : Int32) (S : ZS) (Q : Int32 → ZS → Prop) : Prop :=
  (x3 = 0 → X7_isPlain_b80 S Q) ∧ (¬ x3 = 0 → ((2 : Int32) < x2 → X7_isPlain_b80 S Q) ∧ (¬ (2 : Int32) < x2 → X7_isPlain_b81 (1 : Int32) S Q))
def X7_isPlain_b60 (x1 : Int32) (x2 : Int32) (x4 : Int32) (t0 : Int32) (S : ZS) (Q : Int32 → ZS → Prop) (k7 : Int32 × Int32 × Int32 × ZS → Prop) : Prop :=
  ∀ x4_61 : Int32, x4_61 = x4 + (1 : Int32) → k7 (x2, t0, x4_61, S)
def X7_isPlain_b59 (x1 : Int32) (x2 : Int32) (x4 : Int32) (S : ZS) (Q : Int32 → ZS → Prop) (k7 : Int32 × Int32 × Int32 × ZS → Prop) : Prop :=
  X7_isPlain_b60 x1 x2 x4 (0 : Int32) S Q k7
def X7_isPlain_b36 (x1 : Int32) (x3 : Int32) (x4 : Int32) (x5 : Int32) (t0 : Int32) (t1 : Int32) (S : ZS) (Q : Int32 → ZS → Prop) (k7 : Int32 × Int32 × Int32 × ZS → Prop) : Prop :=
  ∀ x2_37 : Int32, x2_37 = (t1 + t0) → (x3 = 0 → X7_isPlain_b59 x1 x2_37 x4 S Q k7) ∧ (¬ x3 = 0 → X7_within (Int32.toInt64 x5) (-1 : Int64) (1 : Int64) S (fun r_49 S_49 => (r_49 = 0 → X7_isPlain_b59 x1 x2_37 x4 S_49 Q k7) ∧ (¬ r_49 = 0 → X7_isPlain_b60 x1 x2_37 x4 (1 : Int32) S_49 Q k7)))
def X7_isPlain_B7 (x1 : Int32) (x2 : Int32) (x3 : Int32) (x4 : Int32) (S : ZS) (Q : Int32 → ZS → Prop) (k7 : Int32 × Int32 × Int32 × ZS → Prop) : Prop :=
  ((S.1 61 2) ≤ x4 → X7_isPlain_b67 x2 x3 S Q) ∧ (¬ (S.1 61 2) ≤ x4 → X7_coef x4 x1 S (fun r_20 S_20 => (r_20 = 0 → X7_isPlain_b36 x1 x3 x4 r_20 (0 : Int32) x2 S_20 Q k7) ∧ (¬ r_20 = 0 → X7_isPlain_b36 x1 x3 x4 r_20 (1 : Int32) x2 S_20 Q k7)))
def X7_isPlain_L7 (x1 : Int32) (Q : Int32 → ZS → Prop) : (Int32 × Int32 × Int32 × ZS) → ((Int32 × Int32 × Int32 × ZS) → Prop) → Prop := fun st k7 => X7_isPlain_B7 x1 st.1 st.2.1 st.2.2.1 st.2.2.2 Q k7
def X7_isPlain (y1 : Int32) (S : ZS) (Q : Int32 → ZS → Prop) : Prop :=
  zl (X7_isPlain_L7 y1 Q) ((0 : Int32), (1 : Int32), (0 : Int32), S)
set_option maxHeartbeats 4000000 in
set_option maxRecDepth 100000 in
theorem c_X7_isPlain (l : Launch) (D : va_G) (k : Nat → ClassId) (a : Nat → Nat) (hj : zDj a) (y1 : Int32) (S : ZS) (Q : Int32 → ZS → Prop) (hm : X7_isPlain y1 S Q) (sz : Nat) : Met l yX7_isPlain wsX7_isPlain rm_X7_isPlain (zPc D k a [.ref (a 61), .int y1] S sz) (va_Qi Q (zB D k a) (zA a sz)) 0 0 (zA a sz) := by
  refine Met.ofW (cc := cX7_isPlain) (maxL := 6) (ret := (some .boolean)) (by decide) rfl ?_
  intro p e s m args below meth c s₁ B hml hv
  obtain ⟨rfl, hsz, hP, hK⟩ := hv
  have hx := B.exec
  have hb := B.bytes
  have hr := B.returns
  have hts := atoms_spec (ws := wsX7_isPlain) B.pre
  have hown : s.vm.findClass RX7 = some m.cls := findClass_of_methodNamed B.named
  have hlocks := B.notSynchronized
  subst hsz
  have hS : va_S (zA a s.heap.size) s.heap s.heap [] := va_S.rf
  have hF : CallFix p m c cX7_isPlain 6 s _ wsX7_isPlain RX7 := ⟨hx, hb, hml, hown, hts⟩
  have i7 : ∀ w ∈ wsX70, w ∈ wsX7_isPlain := fun _ h => (List.mem_cons_of_mem _ (List.mem_append_right _ h))
  have hl := lv_entry ([.ref (a 61), .int y1]) (n := 6) (Nat.le_of_ble_eq_true rfl)
  rw [lg_entry_eq]
  generalize (lg_sl ([.ref (a 61), .int y1]) ++ List.replicate (6 - (lg_sl ([.ref (a 61), .int y1])).length) Slot.unset).toArray = ls at hl ⊢
  have hl : lv_has ls 6 [(0, .ref (a 61)), (1, .int y1)] := hl
  have b67 : ∀ (x2 : Int32) (x3 : Int32) (S : ZS) (H : Heap) (locs : List Loc) (ls : Array Slot), X7_isPlain_b67 x2 x3 S Q → va_P D vwCl (zWS k a S) H → va_S (zA a s.heap.size) s.heap H locs → lv_has ls 6 [(0, .ref (a 61)), (2, .int x2), (3, .int x3)] → zWi p l e (headSpec wsX7_isPlain rm_X7_isPlain).room s m ([.ref (a 61), .int y1] : List Value) below meth c D k a Q H locs (F0 m 67 ls []) := by
    intro x2 x3 S H locs ls hm hP hS hl
    unfold X7_isPlain_b67 at hm
    have b81 : ∀ (t0 : Int32) (S : ZS) (H : Heap) (locs : List Loc) (ls : Array Slot), X7_isPlain_b81 t0 S Q → va_P D vwCl (zWS k a S) H → va_S (zA a s.heap.size) s.heap H locs → lv_has ls 6 [(0, .ref (a 61))] → zWi p l e (headSpec wsX7_isPlain rm_X7_isPlain).room s m ([.ref (a 61), .int y1] : List Value) below meth c D k a Q H locs (F0 m 81 ls [.int t0]) := by
      intro t0 S H locs ls hm hP hS hl
      unfold X7_isPlain_b81 at hm
      exact z_retz hx hb hr hlocks hP hS hm dX7_isPlain_81
    have b80 : ∀ (S : ZS) (H : Heap) (locs : List Loc) (ls : Array Slot), X7_isPlain_b80 S Q → va_P D vwCl (zWS k a S) H → va_S (zA a s.heap.size) s.heap H locs → lv_has ls 6 [(0, .ref (a 61))] → zWi p l e (headSpec wsX7_isPlain rm_X7_isPlain).room s m ([.ref (a 61), .int y1] : List Value) below meth c D k a Q H locs (F0 m 80 ls []) := by
      intro S H locs ls hm hP hS hl
      unfold X7_isPlain_b80 at hm
      refine lv_iconst (v := (0 : Int32)) hx hb dX7_isPlain_80 (by decide) ?_
      exact b81 (0 : Int32) S _ _ _ hm hP hS (lv_sub hl [0] rfl)
    refine lv_iload_n hx hb dX7_isPlain_67 rfl (lv_at hl 2 rfl) ?_
    refine lv_if_eq (tgt := 80) hx hb dX7_isPlain_68 (by decide) (fun c_68 => ?_) (fun c_68 => ?_)
    · have hm := hm.1 c_68
      exact b80  S _ _ _ hm hP hS (lv_sub hl [0] rfl)
    · have hm := hm.2 c_68
      refine lv_iload_n hx hb dX7_isPlain_71 rfl (lv_at hl 1 rfl) ?_
      refine lv_iconst (v := (2 : Int32)) hx hb dX7_isPlain_72 (by decide) ?_
      refine lv_icmp_gt (tgt := 80) hx hb dX7_isPlain_73 (by decide) (fun c_73 => ?_) (fun c_73 => ?_)
      · have hm := hm.1 c_73
        exact b80  S _ _ _ hm hP hS (lv_sub hl [0] rfl)
      · have hm := hm.2 c_73
        refine lv_iconst (v := (1 : Int32)) hx hb dX7_isPlain_76 (by decide) ?_
        refine lv_goto (tgt := 81) hx hb dX7_isPlain_77 (by decide) ?_
        exact b81 (1 : Int32) S _ _ _ hm hP hS (lv_sub hl [0] rfl)
  have L7 : ∀ (x1 : Int32) (n : Nat) (x2 : Int32) (x3 : Int32) (x4 : Int32) (S : ZS) (H : Heap) (locs : List Loc) (ls : Array Slot), zn (X7_isPlain_L7 x1 Q) n (x2, x3, x4, S) → va_P D vwCl (zWS k a S) H → va_S (zA a s.heap.size) s.heap H locs → lv_has ls 6 [(0, .ref (a 61)), (1, .int x1), (2, .int x2), (3, .int x3), (4, .int x4)] → zWi p l e (headSpec wsX7_isPlain rm_X7_isPlain).room s m ([.ref (a 61), .int y1] : List Value) below meth c D k a Q H locs (F0 m 7 ls []) := by
    intro x1 n
    induction n with
    | zero =>
      intro x2 x3 x4 S H locs ls hm
      exact hm.elim
    | succ n ih7 =>
      intro x2 x3 x4 S H locs ls hm hP hS hl
      have hm : X7_isPlain_B7 x1 x2 x3 x4 S Q (zn (X7_isPlain_L7 x1 Q) n) := hm
      generalize zn (X7_isPlain_L7 x1 Q) n = k7 at hm ih7
      unfold X7_isPlain_B7 at hm
      have b36 : ∀ (x3 : Int32) (x4 : Int32) (x5 : Int32) (t0 : Int32) (t1 : Int32) (S : ZS) (H : Heap) (locs : List Loc) (ls : Array Slot), X7_isPlain_b36 x1 x3 x4 x5 t0 t1 S Q k7 → va_P D vwCl (zWS k a S) H → va_S (zA a s.heap.size) s.heap H locs → lv_has ls 6 [(0, .ref (a 61)), (1, .int x1), (3, .int x3), (4, .int x4), (5, .int x5)] → zWi p l e (headSpec wsX7_isPlain rm_X7_isPlain).room s m ([.ref (a 61), .int y1] : List Value) below meth c D k a Q H locs (F0 m 36 ls [.int t0, .int t1]) := by
        intro x3 x4 x5 t0 t1 S H locs ls hm hP hS hl
        unfold X7_isPlain_b36 at hm
        have b60 : ∀ (x2 : Int32) (x4 : Int32) (t0 : Int32) (S : ZS) (H : Heap) (locs : List Loc) (ls : Array Slot), X7_isPlain_b60 x1 x2 x4 t0 S Q k7 → va_P D vwCl (zWS k a S) H → va_S (zA a s.heap.size) s.heap H locs → lv_has ls 6 [(0, .ref (a 61)), (1, .int x1), (2, .int x2), (4, .int x4)] → zWi p l e (headSpec wsX7_isPlain rm_X7_isPlain).room s m ([.ref (a 61), .int y1] : List Value) below meth c D k a Q H locs (F0 m 60 ls [.int t0]) := by
          intro x2 x4 t0 S H locs ls hm hP hS hl
          unfold X7_isPlain_b60 at hm
          refine lv_istore_n (lv' := [(3, .int t0), (0, .ref (a 61)), (1, .int x1), (2, .int x2), (4, .int x4)]) hx hb dX7_isPlain_60 rfl hl (by decide) rfl (fun ls hl => ?_)
          obtain ⟨x4_61, ex4_61⟩ : ∃ y : Int32, y = x4 + (1 : Int32) := ⟨_, rfl⟩
          have hm := hm x4_61 ex4_61
          refine lv_iinc (v := x4_61) (lv' := [(4, .int x4_61), (3, .int t0), (0, .ref (a 61)), (1, .int x1), (2, .int x2)]) hx hb dX7_isPlain_61 hl (k := 4) rfl (by rw [ex4_61]; rfl) (by decide) rfl (fun ls hl => ?_)
          refine lv_goto (tgt := 7) hx hb dX7_isPlain_64 (by decide) ?_
          exact ih7 x2 t0 x4_61 S _ _ _ hm hP hS (lv_sub hl [2, 3, 4, 1, 0] rfl)
        have b59 : ∀ (x2 : Int32) (x4 : Int32) (S : ZS) (H : Heap) (locs : List Loc) (ls : Array Slot), X7_isPlain_b59 x1 x2 x4 S Q k7 → va_P D vwCl (zWS k a S) H → va_S (zA a s.heap.size) s.heap H locs → lv_has ls 6 [(0, .ref (a 61)), (1, .int x1), (2, .int x2), (4, .int x4)] → zWi p l e (headSpec wsX7_isPlain rm_X7_isPlain).room s m ([.ref (a 61), .int y1] : List Value) below meth c D k a Q H locs (F0 m 59 ls []) := by
          intro x2 x4 S H locs ls hm hP hS hl
          unfold X7_isPlain_b59 at hm
          refine lv_iconst (v := (0 : Int32)) hx hb dX7_isPlain_59 (by decide) ?_
          exact b60 x2 x4 (0 : Int32) S _ _ _ hm hP hS (lv_sub hl [0, 1, 2, 3] rfl)
        refine lv_iadd hx hb dX7_isPlain_36 ?_
        refine lv_topi (fun x2_37 ex2_37 => ?_)
        have hm := hm x2_37 ex2_37
        refine lv_istore_n (lv' := [(2, .int x2_37), (0, .ref (a 61)), (1, .int x1), (3, .int x3), (4, .int x4), (5, .int x5)]) hx hb dX7_isPlain_37 rfl hl (by decide) rfl (fun ls hl => ?_)
        refine lv_iload_n hx hb dX7_isPlain_38 rfl (lv_at hl 3 rfl) ?_
        refine lv_if_eq (tgt := 59) hx hb dX7_isPlain_39 (by decide) (fun c_39 => ?_) (fun c_39 => ?_)
        · have hm := hm.1 c_39
          exact b59 x2_37 x4 S _ _ _ hm hP hS (lv_sub hl [1, 2, 0, 4] rfl)
        · have hm := hm.2 c_39
          refine lv_iload hx hb dX7_isPlain_42 (lv_at hl 5 rfl) ?_
          refine lv_i2l hx hb dX7_isPlain_44 rfl ?_
          refine lv_ldc2 (v := (-1 : Int64)) hx hb hown (hts _ (List.mem_of_getElem? (i := 2) rfl)) dX7_isPlain_45 ?_
          refine lv_lconst (v := (1 : Int64)) hx hb dX7_isPlain_48 (by decide) ?_
          refine z_cSi (As := [.long (Int32.toInt64 x5), .long (-1 : Int64), .long (1 : Int64)]) (rest := []) hF hK hP hS (c_X7_within l D k a hj (Int32.toInt64 x5) (-1 : Int64) (1 : Int64) S _ hm _) (va_cwS 3 hts gX7_isPlain_X7_within rfl rfl rfl (by decide +kernel) ⟨Nat.le_of_ble_eq_true rfl, Nat.le_of_ble_eq_true rfl⟩) rfl hl.1 rfl (Nat.le_of_ble_eq_true rfl) dX7_isPlain_49 ⟨Nat.zero_le _, Nat.zero_le _⟩ (fun r_49 S_49 H locs hm hP hS => ?_)
          refine lv_if_eq (tgt := 59) hx hb dX7_isPlain_52 (by decide) (fun c_52 => ?_) (fun c_52 => ?_)
          · have hm := hm.1 c_52
            exact b59 x2_37 x4 S_49 _ _ _ hm hP hS (lv_sub hl [1, 2, 0, 4] rfl)
          · have hm := hm.2 c_52
            refine lv_iconst (v := (1 : Int32)) hx hb dX7_isPlain_55 (by decide) ?_
            refine lv_goto (tgt := 60) hx hb dX7_isPlain_56 (by decide) ?_
            exact b60 x2_37 x4 (1 : Int32) S_49 _ _ _ hm hP hS (lv_sub hl [1, 2, 0, 4] rfl)
      refine lv_iload hx hb dX7_isPlain_7 (lv_at hl 4 rfl) ?_
      refine lv_aload_n hx hb dX7_isPlain_9 rfl (lv_at hl 0 rfl) ?_
      refine zg_7_rows hx hb hts i7 hown hK hP (hts _ (List.mem_of_getElem? (i := 1) rfl)) dX7_isPlain_10 ?_
      refine lv_icmp_ge (tgt := 67) hx hb dX7_isPlain_13 (by decide) (fun c_13 => ?_) (fun c_13 => ?_)
      · have hm := hm.1 c_13
        exact b67 x2 x3 S _ _ _ hm hP hS (lv_sub hl [0, 2, 3] rfl)
      · have hm := hm.2 c_13
        refine lv_aload_n hx hb dX7_isPlain_16 rfl (lv_at hl 0 rfl) ?_
        refine lv_iload hx hb dX7_isPlain_17 (lv_at hl 4 rfl) ?_
        refine lv_iload_n hx hb dX7_isPlain_19 rfl (lv_at hl 1 rfl) ?_
        refine z_cVi (As := [.int x4, .int x1]) (rest := []) hF hK hP hS zO_61 rfl rfl (c_X7_coef l D k a hj x4 x1 S _ hm _) (cwV 2 hts gX7_isPlain_X7_coef rfl rfl rfl (by decide +kernel) ⟨Nat.le_of_ble_eq_true rfl, Nat.le_of_ble_eq_true rfl⟩) rfl hl.1 rfl (Nat.le_of_ble_eq_true rfl) dX7_isPlain_20 ⟨Nat.zero_le _, Nat.zero_le _⟩ (fun r_20 S_20 H locs hm hP hS => ?_)
        refine lv_istore (lv' := [(5, .int r_20), (0, .ref (a 61)), (1, .int x1), (2, .int x2), (3, .int x3), (4, .int x4)]) hx hb dX7_isPlain_23 hl (by decide) rfl (fun ls hl => ?_)
        refine lv_iload_n hx hb dX7_isPlain_25 rfl (lv_at hl 3 rfl) ?_
        refine lv_iload hx hb dX7_isPlain_26 (lv_at hl 0 rfl) ?_
        refine lv_if_eq (tgt := 35) hx hb dX7_isPlain_28 (by decide) (fun c_28 => ?_) (fun c_28 => ?_)
        · have hm := hm.1 c_28
          refine lv_iconst (v := (0 : Int32)) hx hb dX7_isPlain_35 (by decide) ?_
          exact b36 x3 x4 r_20 (0 : Int32) x2 S_20 _ _ _ hm hP hS (lv_sub hl [1, 2, 4, 5, 0] rfl)
        · have hm := hm.2 c_28
          refine lv_iconst (v := (1 : Int32)) hx hb dX7_isPlain_31 (by decide) ?_
          refine lv_goto (tgt := 36) hx hb dX7_isPlain_32 (by decide) ?_
          exact b36 x3 x4 r_20 (1 : Int32) x2 S_20 _ _ _ hm hP hS (lv_sub hl [1, 2, 4, 5, 0] rfl)
  unfold X7_isPlain at hm
  refine lv_iconst (v := (0 : Int32)) hx hb dX7_isPlain_0 (by decide) ?_
  refine lv_istore_n (lv' := [(2, .int (0 : Int32)), (0, .ref (a 61)), (1, .int y1)]) hx hb dX7_isPlain_1 rfl hl (by decide) rfl (fun ls hl => ?_)
  refine lv_iconst (v := (1 : Int32)) hx hb dX7_isPlain_2 (by decide) ?_
  refine lv_istore_n (lv' := [(3, .int (1 : Int32)), (2, .int (0 : Int32)), (0, .ref (a 61)), (1, .int y1)]) hx hb dX7_isPlain_3 rfl hl (by decide) rfl (fun ls hl => ?_)
  refine lv_iconst (v := (0 : Int32)) hx hb dX7_isPlain_4 (by decide) ?_
  refine lv_istore (lv' := [(4, .int (0 : Int32)), (3, .int (1 : Int32)), (2, .int (0 : Int32)), (0, .ref (a 61)), (1, .int y1)]) hx hb dX7_isPlain_5 hl (by decide) rfl (fun ls hl => ?_)
  obtain ⟨n7, hm⟩ := hm
  exact L7 y1 n7 (0 : Int32) (1 : Int32) (0 : Int32) S _ _ _ hm hP hS (lv_sub hl [3, 4, 2, 1, 0] rfl)

abbrev rm_X7_flowReason : Room := { frames := 3, cells := 0, slots := 0, locals := 72 }
def X7_flowReason_b62 (t0 : Int32) (S : ZS) (Q : Int32 → ZS → Prop) : Prop :=
  Q t0 S
def X7_flowReason_b49 (x1 : Int32) (S : ZS) (Q : Int32 → ZS → Prop) : Prop :=
  (x1 = (S.1 61 1) → X7_flowReason_b62 (-1 : Int32) S Q) ∧ (¬ x1 = (S.1 61 1) → X7_flowReason_b62 x1 S Q)
def X7_flowReason_B31 (x1 : Int32) (S : ZS) (Q : Int32 → ZS → Prop) (k31 : Int32 × ZS → Prop) : Prop :=
  (x1 ≤ 0 → X7_flowReason_b49 x1 S Q) ∧ (¬ x1 ≤ 0 → X7_anySigns x1 S (fun r_37 S_37 => (r_37 = 0 → ∀ x1_43 : Int32, x1_43 = x1 + (-1 : Int32) → k31 (x1_43, S_37)) ∧ (¬ r_37 = 0 → X7_flowReason_b49 x1 S_37 Q)))
def X7_flowReason_L31 (Q : Int32 → ZS → Prop) : (Int32 × ZS) → ((Int32 × ZS) → Prop) → Prop := fun st k31 => X7_flowReason_B31 st.1 st.2 Q k31
def X7_flowReason_b26 (S : ZS) (Q : Int32 → ZS → Prop) : Prop :=
  ∀ x1_30 : Int32, x1_30 = (S.1 61 1) → zl (X7_flowReason_L31 Q) (x1_30, S)
def X7_flowReason_b18 (x1 : Int32) (S : ZS) (Q : Int32 → ZS → Prop) : Prop :=
  Q x1 S
def X7_flowReason_B2 (x1 : Int32) (S : ZS) (Q : Int32 → ZS → Prop) (k2 : Int32 × ZS → Prop) : Prop :=
  ((S.1 61 1) ≤ x1 → X7_flowReason_b26 S Q) ∧ (¬ (S.1 61 1) ≤ x1 → X7_isPlain x1 S (fun r_12 S_12 => (r_12 = 0 → X7_flowReason_b18 x1 S_12 Q) ∧ (¬ r_12 = 0 → ∀ x1_20 : Int32, x1_20 = x1 + (1 : Int32) → k2 (x1_20, S_12))))
def X7_flowReason_L2 (Q : Int32 → ZS → Prop) : (Int32 × ZS) → ((Int32 × ZS) → Prop) → Prop := fun st k2 => X7_flowReason_B2 st.1 st.2 Q k2
def X7_flowReason (S : ZS) (Q : Int32 → ZS → Prop) : Prop :=
  zl (X7_flowReason_L2 Q) ((0 : Int32), S)
set_option maxHeartbeats 4000000 in
set_option maxRecDepth 100000 in
theorem c_X7_flowReason (l : Launch) (D : va_G) (k : Nat → ClassId) (a : Nat → Nat) (hj : zDj a) (S : ZS) (Q : Int32 → ZS → Prop) (hm : X7_flowReason S Q) (sz : Nat) : Met l yX7_flowReason wsX7_flowReason rm_X7_flowReason (zPc D k a [.ref (a 61)] S sz) (va_Qi Q (zB D k a) (zA a sz)) 0 0 (zA a sz) := by
  refine Met.ofW (cc := cX7_flowReason) (maxL := 2) (ret := (some .int)) (by decide) rfl ?_
  intro p e s m args below meth c s₁ B hml hv
  obtain ⟨rfl, hsz, hP, hK⟩ := hv
  have hx := B.exec
  have hb := B.bytes
  have hr := B.returns
  have hts := atoms_spec (ws := wsX7_flowReason) B.pre
  have hown : s.vm.findClass RX7 = some m.cls := findClass_of_methodNamed B.named
  have hlocks := B.notSynchronized
  subst hsz
  have hS : va_S (zA a s.heap.size) s.heap s.heap [] := va_S.rf
  have hF : CallFix p m c cX7_flowReason 2 s _ wsX7_flowReason RX7 := ⟨hx, hb, hml, hown, hts⟩
  have i7 : ∀ w ∈ wsX70, w ∈ wsX7_flowReason := fun _ h => (List.mem_cons_of_mem _ (List.mem_append_right _ h))
  have hl := lv_entry ([.ref (a 61)]) (n := 2) (Nat.le_of_ble_eq_true rfl)
  rw [lg_entry_eq]
  generalize (lg_sl ([.ref (a 61)]) ++ List.replicate (2 - (lg_sl ([.ref (a 61)])).length) Slot.unset).toArray = ls at hl ⊢
  have hl : lv_has ls 2 [(0, .ref (a 61))] := hl
  have b26 : ∀ (S : ZS) (H : Heap) (locs : List Loc) (ls : Array Slot), X7_flowReason_b26 S Q → va_P D vwCl (zWS k a S) H → va_S (zA a s.heap.size) s.heap H locs → lv_has ls 2 [(0, .ref (a 61))] → zWi p l e (headSpec wsX7_flowReason rm_X7_flowReason).room s m ([.ref (a 61)] : List Value) below meth c D k a Q H locs (F0 m 26 ls []) := by
    intro S H locs ls hm hP hS hl
    unfold X7_flowReason_b26 at hm
    have b49 : ∀ (x1 : Int32) (S : ZS) (H : Heap) (locs : List Loc) (ls : Array Slot), X7_flowReason_b49 x1 S Q → va_P D vwCl (zWS k a S) H → va_S (zA a s.heap.size) s.heap H locs → lv_has ls 2 [(0, .ref (a 61)), (1, .int x1)] → zWi p l e (headSpec wsX7_flowReason rm_X7_flowReason).room s m ([.ref (a 61)] : List Value) below meth c D k a Q H locs (F0 m 49 ls []) := by
      intro x1 S H locs ls hm hP hS hl
      unfold X7_flowReason_b49 at hm
      have b62 : ∀ (t0 : Int32) (S : ZS) (H : Heap) (locs : List Loc) (ls : Array Slot), X7_flowReason_b62 t0 S Q → va_P D vwCl (zWS k a S) H → va_S (zA a s.heap.size) s.heap H locs → lv_has ls 2 [(0, .ref (a 61))] → zWi p l e (headSpec wsX7_flowReason rm_X7_flowReason).room s m ([.ref (a 61)] : List Value) below meth c D k a Q H locs (F0 m 62 ls [.int t0]) := by
        intro t0 S H locs ls hm hP hS hl
        unfold X7_flowReason_b62 at hm
        exact z_reti hx hb hr hlocks hP hS hm dX7_flowReason_62
      refine lv_iload_n hx hb dX7_flowReason_49 rfl (lv_at hl 1 rfl) ?_
      refine lv_aload_n hx hb dX7_flowReason_50 rfl (lv_at hl 0 rfl) ?_
      refine zg_7_columns hx hb hts i7 hown hK hP (hts _ (List.mem_of_getElem? (i := 1) rfl)) dX7_flowReason_51 ?_
      refine lv_icmp_ne (tgt := 61) hx hb dX7_flowReason_54 (by decide) (fun c_54 => ?_) (fun c_54 => ?_)
      · have hm := hm.2 c_54
        refine lv_iload_n hx hb dX7_flowReason_61 rfl (lv_at hl 1 rfl) ?_
        exact b62 x1 S _ _ _ hm hP hS (lv_sub hl [0] rfl)
      · have hm := hm.1 c_54
        refine lv_iconst (v := (-1 : Int32)) hx hb dX7_flowReason_57 (by decide) ?_
        refine lv_goto (tgt := 62) hx hb dX7_flowReason_58 (by decide) ?_
        exact b62 (-1 : Int32) S _ _ _ hm hP hS (lv_sub hl [0] rfl)
    have L31 : ∀ (n : Nat) (x1 : Int32) (S : ZS) (H : Heap) (locs : List Loc) (ls : Array Slot), zn (X7_flowReason_L31 Q) n (x1, S) → va_P D vwCl (zWS k a S) H → va_S (zA a s.heap.size) s.heap H locs → lv_has ls 2 [(0, .ref (a 61)), (1, .int x1)] → zWi p l e (headSpec wsX7_flowReason rm_X7_flowReason).room s m ([.ref (a 61)] : List Value) below meth c D k a Q H locs (F0 m 31 ls []) := by
      intro n
      induction n with
      | zero =>
        intro x1 S H locs ls hm
        exact hm.elim
      | succ n ih31 =>
        intro x1 S H locs ls hm hP hS hl
        have hm : X7_flowReason_B31 x1 S Q (zn (X7_flowReason_L31 Q) n) := hm
        generalize zn (X7_flowReason_L31 Q) n = k31 at hm ih31
        unfold X7_flowReason_B31 at hm
        refine lv_iload_n hx hb dX7_flowReason_31 rfl (lv_at hl 1 rfl) ?_
        refine lv_if_le (tgt := 49) hx hb dX7_flowReason_32 (by decide) (fun c_32 => ?_) (fun c_32 => ?_)
        · have hm := hm.1 c_32
          exact b49 x1 S _ _ _ hm hP hS (lv_sub hl [0, 1] rfl)
        · have hm := hm.2 c_32
          refine lv_aload_n hx hb dX7_flowReason_35 rfl (lv_at hl 0 rfl) ?_
          refine lv_iload_n hx hb dX7_flowReason_36 rfl (lv_at hl 1 rfl) ?_
          refine z_cVi (As := [.int x1]) (rest := []) hF hK hP hS zO_61 rfl rfl (c_X7_anySigns l D k a hj x1 S _ hm _) (cwV 1 hts gX7_flowReason_X7_anySigns rfl rfl rfl (by decide +kernel) ⟨Nat.le_of_ble_eq_true rfl, Nat.le_of_ble_eq_true rfl⟩) rfl hl.1 rfl (Nat.le_of_ble_eq_true rfl) dX7_flowReason_37 ⟨Nat.zero_le _, Nat.zero_le _⟩ (fun r_37 S_37 H locs hm hP hS => ?_)
          refine lv_if_ne (tgt := 49) hx hb dX7_flowReason_40 (by decide) (fun c_40 => ?_) (fun c_40 => ?_)
          · have hm := hm.2 c_40
            exact b49 x1 S_37 _ _ _ hm hP hS (lv_sub hl [0, 1] rfl)
          · have hm := hm.1 c_40
            obtain ⟨x1_43, ex1_43⟩ : ∃ y : Int32, y = x1 + (-1 : Int32) := ⟨_, rfl⟩
            have hm := hm x1_43 ex1_43
            refine lv_iinc (v := x1_43) (lv' := [(1, .int x1_43), (0, .ref (a 61))]) hx hb dX7_flowReason_43 hl (k := 1) rfl (by rw [ex1_43]; rfl) (by decide) rfl (fun ls hl => ?_)
            refine lv_goto (tgt := 31) hx hb dX7_flowReason_46 (by decide) ?_
            exact ih31 x1_43 S_37 _ _ _ hm hP hS (lv_sub hl [1, 0] rfl)
    refine lv_aload_n hx hb dX7_flowReason_26 rfl (lv_at hl 0 rfl) ?_
    refine zg_7_columns hx hb hts i7 hown hK hP (hts _ (List.mem_of_getElem? (i := 1) rfl)) dX7_flowReason_27 ?_
    refine lv_topi (fun x1_30 ex1_30 => ?_)
    have hm := hm x1_30 ex1_30
    refine lv_istore_n (lv' := [(1, .int x1_30), (0, .ref (a 61))]) hx hb dX7_flowReason_30 rfl hl (by decide) rfl (fun ls hl => ?_)
    obtain ⟨n31, hm⟩ := hm
    exact L31 n31 x1_30 S _ _ _ hm hP hS (lv_sub hl [1, 0] rfl)
  have b18 : ∀ (x1 : Int32) (S : ZS) (H : Heap) (locs : List Loc) (ls : Array Slot), X7_flowReason_b18 x1 S Q → va_P D vwCl (zWS k a S) H → va_S (zA a s.heap.size) s.heap H locs → lv_has ls 2 [(0, .ref (a 61)), (1, .int x1)] → zWi p l e (headSpec wsX7_flowReason rm_X7_flowReason).room s m ([.ref (a 61)] : List Value) below meth c D k a Q H locs (F0 m 18 ls []) := by
    intro x1 S H locs ls hm hP hS hl
    unfold X7_flowReason_b18 at hm
    refine lv_iload_n hx hb dX7_flowReason_18 rfl (lv_at hl 1 rfl) ?_
    exact z_reti hx hb hr hlocks hP hS hm dX7_flowReason_19
  have L2 : ∀ (n : Nat) (x1 : Int32) (S : ZS) (H : Heap) (locs : List Loc) (ls : Array Slot), zn (X7_flowReason_L2 Q) n (x1, S) → va_P D vwCl (zWS k a S) H → va_S (zA a s.heap.size) s.heap H locs → lv_has ls 2 [(0, .ref (a 61)), (1, .int x1)] → zWi p l e (headSpec wsX7_flowReason rm_X7_flowReason).room s m ([.ref (a 61)] : List Value) below meth c D k a Q H locs (F0 m 2 ls []) := by
    intro n
    induction n with
    | zero =>
      intro x1 S H locs ls hm
      exact hm.elim
    | succ n ih2 =>
      intro x1 S H locs ls hm hP hS hl
      have hm : X7_flowReason_B2 x1 S Q (zn (X7_flowReason_L2 Q) n) := hm
      generalize zn (X7_flowReason_L2 Q) n = k2 at hm ih2
      unfold X7_flowReason_B2 at hm
      refine lv_iload_n hx hb dX7_flowReason_2 rfl (lv_at hl 1 rfl) ?_
      refine lv_aload_n hx hb dX7_flowReason_3 rfl (lv_at hl 0 rfl) ?_
      refine zg_7_columns hx hb hts i7 hown hK hP (hts _ (List.mem_of_getElem? (i := 1) rfl)) dX7_flowReason_4 ?_
      refine lv_icmp_ge (tgt := 26) hx hb dX7_flowReason_7 (by decide) (fun c_7 => ?_) (fun c_7 => ?_)
      · have hm := hm.1 c_7
        exact b26  S _ _ _ hm hP hS (lv_sub hl [0] rfl)
      · have hm := hm.2 c_7
        refine lv_aload_n hx hb dX7_flowReason_10 rfl (lv_at hl 0 rfl) ?_
        refine lv_iload_n hx hb dX7_flowReason_11 rfl (lv_at hl 1 rfl) ?_
        refine z_cVi (As := [.int x1]) (rest := []) hF hK hP hS zO_61 rfl rfl (c_X7_isPlain l D k a hj x1 S _ hm _) (cwV 1 hts gX7_flowReason_X7_isPlain rfl rfl rfl (by decide +kernel) ⟨Nat.le_of_ble_eq_true rfl, Nat.le_of_ble_eq_true rfl⟩) rfl hl.1 rfl (Nat.le_of_ble_eq_true rfl) dX7_flowReason_12 ⟨Nat.zero_le _, Nat.zero_le _⟩ (fun r_12 S_12 H locs hm hP hS => ?_)
        refine lv_if_ne (tgt := 20) hx hb dX7_flowReason_15 (by decide) (fun c_15 => ?_) (fun c_15 => ?_)
        · have hm := hm.2 c_15
          obtain ⟨x1_20, ex1_20⟩ : ∃ y : Int32, y = x1 + (1 : Int32) := ⟨_, rfl⟩
          have hm := hm x1_20 ex1_20
          refine lv_iinc (v := x1_20) (lv' := [(1, .int x1_20), (0, .ref (a 61))]) hx hb dX7_flowReason_20 hl (k := 1) rfl (by rw [ex1_20]; rfl) (by decide) rfl (fun ls hl => ?_)
          refine lv_goto (tgt := 2) hx hb dX7_flowReason_23 (by decide) ?_
          exact ih2 x1_20 S_12 _ _ _ hm hP hS (lv_sub hl [1, 0] rfl)
        · have hm := hm.1 c_15
          exact b18 x1 S_12 _ _ _ hm hP hS (lv_sub hl [0, 1] rfl)
  unfold X7_flowReason at hm
  refine lv_iconst (v := (0 : Int32)) hx hb dX7_flowReason_0 (by decide) ?_
  refine lv_istore_n (lv' := [(1, .int (0 : Int32)), (0, .ref (a 61))]) hx hb dX7_flowReason_1 rfl hl (by decide) rfl (fun ls hl => ?_)
  obtain ⟨n2, hm⟩ := hm
  exact L2 n2 (0 : Int32) S _ _ _ hm hP hS (lv_sub hl [1, 0] rfl)

abbrev rm_X7_findSigns : Room := { frames := 3, cells := 0, slots := 0, locals := 67 }
def X7_findSigns_b117 (S : ZS) (Q : ZS → Prop) : Prop :=
  Q S
def X7_findSigns_b111 (x1 : Int32) (S : ZS) (Q : ZS → Prop) (k13 : Int32 × ZS → Prop) : Prop :=
  ∀ x1_111 : Int32, x1_111 = x1 + (-1 : Int32) → k13 (x1_111, S)
def X7_findSigns_b104 (x1 : Int32) (x2 : Int32) (x3 : Int32) (t0 : Int32) (t1 : Int32) (S : ZS) (Q : ZS → Prop) (k13 : Int32 × ZS → Prop) (k73 : Int32 × ZS → Prop) : Prop :=
  vp_in t1 8 ∧ ∀ S_104 : ZS, S_104 = zu S 71 (t1).toNatClampNeg t0 → ∀ x3_105 : Int32, x3_105 = x3 + (1 : Int32) → k73 (x3_105, S_104)
def X7_findSigns_B73 (x1 : Int32) (x2 : Int32) (x3 : Int32) (S : ZS) (Q : ZS → Prop) (k13 : Int32 × ZS → Prop) (k73 : Int32 × ZS → Prop) : Prop :=
  ((S.1 61 2) ≤ x3 → X7_findSigns_b111 x1 S Q k13) ∧ (¬ (S.1 61 2) ≤ x3 → (x2 = 0 → X7_findSigns_b111 x1 S Q k13) ∧ (¬ x2 = 0 → (((x1 >>> (x3 &&& 31)) &&& (1 : Int32)) = (1 : Int32) → X7_findSigns_b104 x1 x2 x3 (-1 : Int32) x3 S Q k13 k73) ∧ (¬ ((x1 >>> (x3 &&& 31)) &&& (1 : Int32)) = (1 : Int32) → X7_findSigns_b104 x1 x2 x3 (1 : Int32) x3 S Q k13 k73)))
def X7_findSigns_L73 (x1 : Int32) (x2 : Int32) (Q : ZS → Prop) (k13 : Int32 × ZS → Prop) : (Int32 × ZS) → ((Int32 × ZS) → Prop) → Prop := fun st k73 => X7_findSigns_B73 x1 x2 st.1 st.2 Q k13 k73
def X7_findSigns_b71 (x1 : Int32) (x2 : Int32) (S : ZS) (Q : ZS → Prop) (k13 : Int32 × ZS → Prop) : Prop :=
  zl (X7_findSigns_L73 x1 x2 Q k13) ((0 : Int32), S)
def X7_findSigns_b64 (x1 : Int32) (x3 : Int32) (t0 : Int32) (S : ZS) (Q : ZS → Prop) (k13 : Int32 × ZS → Prop) (k29 : Int32 × Int32 × ZS → Prop) : Prop :=
  ∀ x3_65 : Int32, x3_65 = x3 + (1 : Int32) → k29 (t0, x3_65, S)
def X7_findSigns_b63 (x1 : Int32) (x3 : Int32) (S : ZS) (Q : ZS → Prop) (k13 : Int32 × ZS → Prop) (k29 : Int32 × Int32 × ZS → Prop) : Prop :=
  X7_findSigns_b64 x1 x3 (0 : Int32) S Q k13 k29
def X7_findSigns_b59 (x1 : Int32) (x3 : Int32) (S : ZS) (Q : ZS → Prop) (k13 : Int32 × ZS → Prop) (k29 : Int32 × Int32 × ZS → Prop) : Prop :=
  X7_findSigns_b64 x1 x3 (1 : Int32) S Q k13 k29
def X7_findSigns_B29 (x1 : Int32) (x2 : Int32) (x3 : Int32) (S : ZS) (Q : ZS → Prop) (k13 : Int32 × ZS → Prop) (k29 : Int32 × Int32 × ZS → Prop) : Prop :=
  ((S.1 61 2) ≤ x3 → X7_findSigns_b71 x1 x2 S Q k13) ∧ (¬ (S.1 61 2) ≤ x3 → (x2 = 0 → X7_findSigns_b63 x1 x3 S Q k13 k29) ∧ (¬ x2 = 0 → vp_in x3 8 ∧ ((S.1 70 (x3).toNatClampNeg) = x3 → (((x1 >>> (x3 &&& 31)) &&& (1 : Int32)) = 0 → X7_findSigns_b59 x1 x3 S Q k13 k29) ∧ (¬ ((x1 >>> (x3 &&& 31)) &&& (1 : Int32)) = 0 → X7_findSigns_b63 x1 x3 S Q k13 k29)) ∧ (¬ (S.1 70 (x3).toNatClampNeg) = x3 → X7_findSigns_b59 x1 x3 S Q k13 k29)))
def X7_findSigns_L29 (x1 : Int32) (Q : ZS → Prop) (k13 : Int32 × ZS → Prop) : (Int32 × Int32 × ZS) → ((Int32 × Int32 × ZS) → Prop) → Prop := fun st k29 => X7_findSigns_B29 x1 st.1 st.2.1 st.2.2 Q k13 k29
def X7_findSigns_B13 (x1 : Int32) (S : ZS) (Q : ZS → Prop) (k13 : Int32 × ZS → Prop) : Prop :=
  (x1 < 0 → X7_findSigns_b117 S Q) ∧ (¬ x1 < 0 → X7_signsDo x1 (S.1 61 1) S (fun r_23 S_23 => zl (X7_findSigns_L29 x1 Q k13) (r_23, (0 : Int32), S_23)))
def X7_findSigns_L13 (Q : ZS → Prop) : (Int32 × ZS) → ((Int32 × ZS) → Prop) → Prop := fun st k13 => X7_findSigns_B13 st.1 st.2 Q k13
def X7_findSigns (S : ZS) (Q : ZS → Prop) : Prop :=
  X7_findParts S (fun S_1 => ∀ x1_12 : Int32, x1_12 = (((1 : Int32) <<< ((S_1.1 61 2) &&& 31)) - (1 : Int32)) → zl (X7_findSigns_L13 Q) (x1_12, S_1))
set_option maxHeartbeats 4000000 in
set_option maxRecDepth 100000 in
theorem c_X7_findSigns (l : Launch) (D : va_G) (k : Nat → ClassId) (a : Nat → Nat) (hj : zDj a) (S : ZS) (Q : ZS → Prop) (hm : X7_findSigns S Q) (sz : Nat) : Met l yX7_findSigns wsX7_findSigns rm_X7_findSigns (zPc D k a [.ref (a 61)] S sz) (va_Qv Q (zB D k a) (zA a sz)) 0 0 (zA a sz) := by
  refine Met.ofW (cc := cX7_findSigns) (maxL := 4) (ret := none) (by decide) rfl ?_
  intro p e s m args below meth c s₁ B hml hv
  obtain ⟨rfl, hsz, hP, hK⟩ := hv
  have hx := B.exec
  have hb := B.bytes
  have hr := B.returns
  have hts := atoms_spec (ws := wsX7_findSigns) B.pre
  have hown : s.vm.findClass RX7 = some m.cls := findClass_of_methodNamed B.named
  have hlocks := B.notSynchronized
  subst hsz
  have hS : va_S (zA a s.heap.size) s.heap s.heap [] := va_S.rf
  have hF : CallFix p m c cX7_findSigns 4 s _ wsX7_findSigns RX7 := ⟨hx, hb, hml, hown, hts⟩
  have i7 : ∀ w ∈ wsX70, w ∈ wsX7_findSigns := fun _ h => (List.mem_cons_of_mem _ (List.mem_append_right _ h))
  have hl := lv_entry ([.ref (a 61)]) (n := 4) (Nat.le_of_ble_eq_true rfl)
  rw [lg_entry_eq]
  generalize (lg_sl ([.ref (a 61)]) ++ List.replicate (4 - (lg_sl ([.ref (a 61)])).length) Slot.unset).toArray = ls at hl ⊢
  have hl : lv_has ls 4 [(0, .ref (a 61))] := hl
  have b117 : ∀ (S : ZS) (H : Heap) (locs : List Loc) (ls : Array Slot), X7_findSigns_b117 S Q → va_P D vwCl (zWS k a S) H → va_S (zA a s.heap.size) s.heap H locs → lv_has ls 4 [(0, .ref (a 61))] → zWv p l e (headSpec wsX7_findSigns rm_X7_findSigns).room s m ([.ref (a 61)] : List Value) below meth c D k a Q H locs (F0 m 117 ls []) := by
    intro S H locs ls hm hP hS hl
    unfold X7_findSigns_b117 at hm
    exact z_retv hx hb hr hlocks hP hS hm dX7_findSigns_117
  have L13 : ∀ (n : Nat) (x1 : Int32) (S : ZS) (H : Heap) (locs : List Loc) (ls : Array Slot), zn (X7_findSigns_L13 Q) n (x1, S) → va_P D vwCl (zWS k a S) H → va_S (zA a s.heap.size) s.heap H locs → lv_has ls 4 [(0, .ref (a 61)), (1, .int x1)] → zWv p l e (headSpec wsX7_findSigns rm_X7_findSigns).room s m ([.ref (a 61)] : List Value) below meth c D k a Q H locs (F0 m 13 ls []) := by
    intro n
    induction n with
    | zero =>
      intro x1 S H locs ls hm
      exact hm.elim
    | succ n ih13 =>
      intro x1 S H locs ls hm hP hS hl
      have hm : X7_findSigns_B13 x1 S Q (zn (X7_findSigns_L13 Q) n) := hm
      generalize zn (X7_findSigns_L13 Q) n = k13 at hm ih13
      unfold X7_findSigns_B13 at hm
      have b71 : ∀ (x1 : Int32) (x2 : Int32) (S : ZS) (H : Heap) (locs : List Loc) (ls : Array Slot), X7_findSigns_b71 x1 x2 S Q k13 → va_P D vwCl (zWS k a S) H → va_S (zA a s.heap.size) s.heap H locs → lv_has ls 4 [(0, .ref (a 61)), (1, .int x1), (2, .int x2)] → zWv p l e (headSpec wsX7_findSigns rm_X7_findSigns).room s m ([.ref (a 61)] : List Value) below meth c D k a Q H locs (F0 m 71 ls []) := by
        intro x1 x2 S H locs ls hm hP hS hl
        unfold X7_findSigns_b71 at hm
        have b111 : ∀ (x1 : Int32) (S : ZS) (H : Heap) (locs : List Loc) (ls : Array Slot), X7_findSigns_b111 x1 S Q k13 → va_P D vwCl (zWS k a S) H → va_S (zA a s.heap.size) s.heap H locs → lv_has ls 4 [(0, .ref (a 61)), (1, .int x1)] → zWv p l e (headSpec wsX7_findSigns rm_X7_findSigns).room s m ([.ref (a 61)] : List Value) below meth c D k a Q H locs (F0 m 111 ls []) := by
          intro x1 S H locs ls hm hP hS hl
          unfold X7_findSigns_b111 at hm
          obtain ⟨x1_111, ex1_111⟩ : ∃ y : Int32, y = x1 + (-1 : Int32) := ⟨_, rfl⟩
          have hm := hm x1_111 ex1_111
          refine lv_iinc (v := x1_111) (lv' := [(1, .int x1_111), (0, .ref (a 61))]) hx hb dX7_findSigns_111 hl (k := 1) rfl (by rw [ex1_111]; rfl) (by decide) rfl (fun ls hl => ?_)
          refine lv_goto (tgt := 13) hx hb dX7_findSigns_114 (by decide) ?_
          exact ih13 x1_111 S _ _ _ hm hP hS (lv_sub hl [1, 0] rfl)
        have L73 : ∀ (x1 : Int32) (x2 : Int32) (n : Nat) (x3 : Int32) (S : ZS) (H : Heap) (locs : List Loc) (ls : Array Slot), zn (X7_findSigns_L73 x1 x2 Q k13) n (x3, S) → va_P D vwCl (zWS k a S) H → va_S (zA a s.heap.size) s.heap H locs → lv_has ls 4 [(0, .ref (a 61)), (1, .int x1), (2, .int x2), (3, .int x3)] → zWv p l e (headSpec wsX7_findSigns rm_X7_findSigns).room s m ([.ref (a 61)] : List Value) below meth c D k a Q H locs (F0 m 73 ls []) := by
          intro x1 x2 n
          induction n with
          | zero =>
            intro x3 S H locs ls hm
            exact hm.elim
          | succ n ih73 =>
            intro x3 S H locs ls hm hP hS hl
            have hm : X7_findSigns_B73 x1 x2 x3 S Q k13 (zn (X7_findSigns_L73 x1 x2 Q k13) n) := hm
            generalize zn (X7_findSigns_L73 x1 x2 Q k13) n = k73 at hm ih73
            unfold X7_findSigns_B73 at hm
            have b104 : ∀ (x3 : Int32) (t0 : Int32) (t1 : Int32) (S : ZS) (H : Heap) (locs : List Loc) (ls : Array Slot), X7_findSigns_b104 x1 x2 x3 t0 t1 S Q k13 k73 → va_P D vwCl (zWS k a S) H → va_S (zA a s.heap.size) s.heap H locs → lv_has ls 4 [(0, .ref (a 61)), (1, .int x1), (2, .int x2), (3, .int x3)] → zWv p l e (headSpec wsX7_findSigns rm_X7_findSigns).room s m ([.ref (a 61)] : List Value) below meth c D k a Q H locs (F0 m 104 ls [.int t0, .int t1, .ref (a 71)]) := by
              intro x3 t0 t1 S H locs ls hm hP hS hl
              unfold X7_findSigns_b104 at hm
              obtain ⟨h_104, hm⟩ := hm
              refine z_iast hx hb hj hK hP hS zI_71 h_104 dX7_findSigns_104 (fun H locs hP hS => ?_)
              obtain ⟨S_104, eS_104⟩ : ∃ z : ZS, z = zu S 71 (t1).toNatClampNeg t0 := ⟨_, rfl⟩
              rw [← eS_104] at hP
              have hm := hm S_104 eS_104
              obtain ⟨x3_105, ex3_105⟩ : ∃ y : Int32, y = x3 + (1 : Int32) := ⟨_, rfl⟩
              have hm := hm x3_105 ex3_105
              refine lv_iinc (v := x3_105) (lv' := [(3, .int x3_105), (0, .ref (a 61)), (1, .int x1), (2, .int x2)]) hx hb dX7_findSigns_105 hl (k := 3) rfl (by rw [ex3_105]; rfl) (by decide) rfl (fun ls hl => ?_)
              refine lv_goto (tgt := 73) hx hb dX7_findSigns_108 (by decide) ?_
              exact ih73 x3_105 S_104 _ _ _ hm hP hS (lv_sub hl [1, 2, 3, 0] rfl)
            refine lv_iload_n hx hb dX7_findSigns_73 rfl (lv_at hl 3 rfl) ?_
            refine lv_aload_n hx hb dX7_findSigns_74 rfl (lv_at hl 0 rfl) ?_
            refine zg_7_rows hx hb hts i7 hown hK hP (hts _ (List.mem_of_getElem? (i := 1) rfl)) dX7_findSigns_75 ?_
            refine lv_icmp_ge (tgt := 111) hx hb dX7_findSigns_78 (by decide) (fun c_78 => ?_) (fun c_78 => ?_)
            · have hm := hm.1 c_78
              exact b111 x1 S _ _ _ hm hP hS (lv_sub hl [0, 1] rfl)
            · have hm := hm.2 c_78
              refine lv_iload_n hx hb dX7_findSigns_81 rfl (lv_at hl 2 rfl) ?_
              refine lv_if_eq (tgt := 111) hx hb dX7_findSigns_82 (by decide) (fun c_82 => ?_) (fun c_82 => ?_)
              · have hm := hm.1 c_82
                exact b111 x1 S _ _ _ hm hP hS (lv_sub hl [0, 1] rfl)
              · have hm := hm.2 c_82
                refine lv_aload_n hx hb dX7_findSigns_85 rfl (lv_at hl 0 rfl) ?_
                refine zg_7_signs hx hb hts i7 hown hK hP (hts _ (List.mem_of_getElem? (i := 4) rfl)) dX7_findSigns_86 ?_
                refine lv_iload_n hx hb dX7_findSigns_89 rfl (lv_at hl 3 rfl) ?_
                refine lv_iload_n hx hb dX7_findSigns_90 rfl (lv_at hl 1 rfl) ?_
                refine lv_iload_n hx hb dX7_findSigns_91 rfl (lv_at hl 3 rfl) ?_
                refine lv_ishr hx hb dX7_findSigns_92 ?_
                refine lv_iconst (v := (1 : Int32)) hx hb dX7_findSigns_93 (by decide) ?_
                refine lv_iand hx hb dX7_findSigns_94 ?_
                refine lv_iconst (v := (1 : Int32)) hx hb dX7_findSigns_95 (by decide) ?_
                refine lv_icmp_ne (tgt := 103) hx hb dX7_findSigns_96 (by decide) (fun c_96 => ?_) (fun c_96 => ?_)
                · have hm := hm.2 c_96
                  refine lv_iconst (v := (1 : Int32)) hx hb dX7_findSigns_103 (by decide) ?_
                  exact b104 x3 (1 : Int32) x3 S _ _ _ hm hP hS (lv_sub hl [0, 1, 2, 3] rfl)
                · have hm := hm.1 c_96
                  refine lv_iconst (v := (-1 : Int32)) hx hb dX7_findSigns_99 (by decide) ?_
                  refine lv_goto (tgt := 104) hx hb dX7_findSigns_100 (by decide) ?_
                  exact b104 x3 (-1 : Int32) x3 S _ _ _ hm hP hS (lv_sub hl [0, 1, 2, 3] rfl)
        refine lv_iconst (v := (0 : Int32)) hx hb dX7_findSigns_71 (by decide) ?_
        refine lv_istore_n (lv' := [(3, .int (0 : Int32)), (0, .ref (a 61)), (1, .int x1), (2, .int x2)]) hx hb dX7_findSigns_72 rfl hl (by decide) rfl (fun ls hl => ?_)
        obtain ⟨n73, hm⟩ := hm
        exact L73 x1 x2 n73 (0 : Int32) S _ _ _ hm hP hS (lv_sub hl [1, 2, 3, 0] rfl)
      have L29 : ∀ (x1 : Int32) (n : Nat) (x2 : Int32) (x3 : Int32) (S : ZS) (H : Heap) (locs : List Loc) (ls : Array Slot), zn (X7_findSigns_L29 x1 Q k13) n (x2, x3, S) → va_P D vwCl (zWS k a S) H → va_S (zA a s.heap.size) s.heap H locs → lv_has ls 4 [(0, .ref (a 61)), (1, .int x1), (2, .int x2), (3, .int x3)] → zWv p l e (headSpec wsX7_findSigns rm_X7_findSigns).room s m ([.ref (a 61)] : List Value) below meth c D k a Q H locs (F0 m 29 ls []) := by
        intro x1 n
        induction n with
        | zero =>
          intro x2 x3 S H locs ls hm
          exact hm.elim
        | succ n ih29 =>
          intro x2 x3 S H locs ls hm hP hS hl
          have hm : X7_findSigns_B29 x1 x2 x3 S Q k13 (zn (X7_findSigns_L29 x1 Q k13) n) := hm
          generalize zn (X7_findSigns_L29 x1 Q k13) n = k29 at hm ih29
          unfold X7_findSigns_B29 at hm
          have b64 : ∀ (x3 : Int32) (t0 : Int32) (S : ZS) (H : Heap) (locs : List Loc) (ls : Array Slot), X7_findSigns_b64 x1 x3 t0 S Q k13 k29 → va_P D vwCl (zWS k a S) H → va_S (zA a s.heap.size) s.heap H locs → lv_has ls 4 [(0, .ref (a 61)), (1, .int x1), (3, .int x3)] → zWv p l e (headSpec wsX7_findSigns rm_X7_findSigns).room s m ([.ref (a 61)] : List Value) below meth c D k a Q H locs (F0 m 64 ls [.int t0]) := by
            intro x3 t0 S H locs ls hm hP hS hl
            unfold X7_findSigns_b64 at hm
            refine lv_istore_n (lv' := [(2, .int t0), (0, .ref (a 61)), (1, .int x1), (3, .int x3)]) hx hb dX7_findSigns_64 rfl hl (by decide) rfl (fun ls hl => ?_)
            obtain ⟨x3_65, ex3_65⟩ : ∃ y : Int32, y = x3 + (1 : Int32) := ⟨_, rfl⟩
            have hm := hm x3_65 ex3_65
            refine lv_iinc (v := x3_65) (lv' := [(3, .int x3_65), (2, .int t0), (0, .ref (a 61)), (1, .int x1)]) hx hb dX7_findSigns_65 hl (k := 3) rfl (by rw [ex3_65]; rfl) (by decide) rfl (fun ls hl => ?_)
            refine lv_goto (tgt := 29) hx hb dX7_findSigns_68 (by decide) ?_
            exact ih29 t0 x3_65 S _ _ _ hm hP hS (lv_sub hl [2, 3, 1, 0] rfl)
          have b63 : ∀ (x3 : Int32) (S : ZS) (H : Heap) (locs : List Loc) (ls : Array Slot), X7_findSigns_b63 x1 x3 S Q k13 k29 → va_P D vwCl (zWS k a S) H → va_S (zA a s.heap.size) s.heap H locs → lv_has ls 4 [(0, .ref (a 61)), (1, .int x1), (3, .int x3)] → zWv p l e (headSpec wsX7_findSigns rm_X7_findSigns).room s m ([.ref (a 61)] : List Value) below meth c D k a Q H locs (F0 m 63 ls []) := by
            intro x3 S H locs ls hm hP hS hl
            unfold X7_findSigns_b63 at hm
            refine lv_iconst (v := (0 : Int32)) hx hb dX7_findSigns_63 (by decide) ?_
            exact b64 x3 (0 : Int32) S _ _ _ hm hP hS (lv_sub hl [0, 1, 2] rfl)
          have b59 : ∀ (x3 : Int32) (S : ZS) (H : Heap) (locs : List Loc) (ls : Array Slot), X7_findSigns_b59 x1 x3 S Q k13 k29 → va_P D vwCl (zWS k a S) H → va_S (zA a s.heap.size) s.heap H locs → lv_has ls 4 [(0, .ref (a 61)), (1, .int x1), (3, .int x3)] → zWv p l e (headSpec wsX7_findSigns rm_X7_findSigns).room s m ([.ref (a 61)] : List Value) below meth c D k a Q H locs (F0 m 59 ls []) := by
            intro x3 S H locs ls hm hP hS hl
            unfold X7_findSigns_b59 at hm
            refine lv_iconst (v := (1 : Int32)) hx hb dX7_findSigns_59 (by decide) ?_
            refine lv_goto (tgt := 64) hx hb dX7_findSigns_60 (by decide) ?_
            exact b64 x3 (1 : Int32) S _ _ _ hm hP hS (lv_sub hl [0, 1, 2] rfl)
          refine lv_iload_n hx hb dX7_findSigns_29 rfl (lv_at hl 3 rfl) ?_
          refine lv_aload_n hx hb dX7_findSigns_30 rfl (lv_at hl 0 rfl) ?_
          refine zg_7_rows hx hb hts i7 hown hK hP (hts _ (List.mem_of_getElem? (i := 1) rfl)) dX7_findSigns_31 ?_
          refine lv_icmp_ge (tgt := 71) hx hb dX7_findSigns_34 (by decide) (fun c_34 => ?_) (fun c_34 => ?_)
          · have hm := hm.1 c_34
            exact b71 x1 x2 S _ _ _ hm hP hS (lv_sub hl [0, 1, 2] rfl)
          · have hm := hm.2 c_34
            refine lv_iload_n hx hb dX7_findSigns_37 rfl (lv_at hl 2 rfl) ?_
            refine lv_if_eq (tgt := 63) hx hb dX7_findSigns_38 (by decide) (fun c_38 => ?_) (fun c_38 => ?_)
            · have hm := hm.1 c_38
              exact b63 x3 S _ _ _ hm hP hS (lv_sub hl [0, 1, 3] rfl)
            · have hm := hm.2 c_38
              refine lv_aload_n hx hb dX7_findSigns_41 rfl (lv_at hl 0 rfl) ?_
              refine zg_7_least hx hb hts i7 hown hK hP (hts _ (List.mem_of_getElem? (i := 3) rfl)) dX7_findSigns_42 ?_
              refine lv_iload_n hx hb dX7_findSigns_45 rfl (lv_at hl 3 rfl) ?_
              obtain ⟨h_46, hm⟩ := hm
              refine z_iald hx hb hK hP zI_70 h_46 dX7_findSigns_46 ?_
              refine lv_iload_n hx hb dX7_findSigns_47 rfl (lv_at hl 3 rfl) ?_
              refine lv_icmp_ne (tgt := 59) hx hb dX7_findSigns_48 (by decide) (fun c_48 => ?_) (fun c_48 => ?_)
              · have hm := hm.2 c_48
                exact b59 x3 S _ _ _ hm hP hS (lv_sub hl [0, 1, 3] rfl)
              · have hm := hm.1 c_48
                refine lv_iload_n hx hb dX7_findSigns_51 rfl (lv_at hl 1 rfl) ?_
                refine lv_iload_n hx hb dX7_findSigns_52 rfl (lv_at hl 3 rfl) ?_
                refine lv_ishr hx hb dX7_findSigns_53 ?_
                refine lv_iconst (v := (1 : Int32)) hx hb dX7_findSigns_54 (by decide) ?_
                refine lv_iand hx hb dX7_findSigns_55 ?_
                refine lv_if_ne (tgt := 63) hx hb dX7_findSigns_56 (by decide) (fun c_56 => ?_) (fun c_56 => ?_)
                · have hm := hm.2 c_56
                  exact b63 x3 S _ _ _ hm hP hS (lv_sub hl [0, 1, 3] rfl)
                · have hm := hm.1 c_56
                  exact b59 x3 S _ _ _ hm hP hS (lv_sub hl [0, 1, 3] rfl)
      refine lv_iload_n hx hb dX7_findSigns_13 rfl (lv_at hl 1 rfl) ?_
      refine lv_if_lt (tgt := 117) hx hb dX7_findSigns_14 (by decide) (fun c_14 => ?_) (fun c_14 => ?_)
      · have hm := hm.1 c_14
        exact b117  S _ _ _ hm hP hS (lv_sub hl [0] rfl)
      · have hm := hm.2 c_14
        refine lv_aload_n hx hb dX7_findSigns_17 rfl (lv_at hl 0 rfl) ?_
        refine lv_iload_n hx hb dX7_findSigns_18 rfl (lv_at hl 1 rfl) ?_
        refine lv_aload_n hx hb dX7_findSigns_19 rfl (lv_at hl 0 rfl) ?_
        refine zg_7_columns hx hb hts i7 hown hK hP (hts _ (List.mem_of_getElem? (i := 2) rfl)) dX7_findSigns_20 ?_
        refine z_cVi (As := [.int x1, .int (S.1 61 1)]) (rest := []) hF hK hP hS zO_61 rfl rfl (c_X7_signsDo l D k a hj x1 (S.1 61 1) S _ hm _) (cwV 2 hts gX7_findSigns_X7_signsDo rfl rfl rfl (by decide +kernel) ⟨Nat.le_of_ble_eq_true rfl, Nat.le_of_ble_eq_true rfl⟩) rfl hl.1 rfl (Nat.le_of_ble_eq_true rfl) dX7_findSigns_23 ⟨Nat.zero_le _, Nat.zero_le _⟩ (fun r_23 S_23 H locs hm hP hS => ?_)
        refine lv_istore_n (lv' := [(2, .int r_23), (0, .ref (a 61)), (1, .int x1)]) hx hb dX7_findSigns_26 rfl hl (by decide) rfl (fun ls hl => ?_)
        refine lv_iconst (v := (0 : Int32)) hx hb dX7_findSigns_27 (by decide) ?_
        refine lv_istore_n (lv' := [(3, .int (0 : Int32)), (2, .int r_23), (0, .ref (a 61)), (1, .int x1)]) hx hb dX7_findSigns_28 rfl hl (by decide) rfl (fun ls hl => ?_)
        obtain ⟨n29, hm⟩ := hm
        exact L29 x1 n29 r_23 (0 : Int32) S_23 _ _ _ hm hP hS (lv_sub hl [2, 3, 1, 0] rfl)
  unfold X7_findSigns at hm
  refine lv_aload_n hx hb dX7_findSigns_0 rfl (lv_at hl 0 rfl) ?_
  refine z_cVv (As := []) (rest := []) hF hK hP hS zO_61 rfl rfl (c_X7_findParts l D k a hj  S _ hm _) (cwV 0 hts gX7_findSigns_X7_findParts rfl rfl rfl (by decide +kernel) ⟨Nat.le_of_ble_eq_true rfl, Nat.le_of_ble_eq_true rfl⟩) rfl hl.1 rfl (Nat.le_of_ble_eq_true rfl) dX7_findSigns_1 ⟨Nat.zero_le _, Nat.zero_le _⟩ (fun S_1 H locs hm hP hS => ?_)
  refine lv_iconst (v := (1 : Int32)) hx hb dX7_findSigns_4 (by decide) ?_
  refine lv_aload_n hx hb dX7_findSigns_5 rfl (lv_at hl 0 rfl) ?_
  refine zg_7_rows hx hb hts i7 hown hK hP (hts _ (List.mem_of_getElem? (i := 1) rfl)) dX7_findSigns_6 ?_
  refine lv_ishl hx hb dX7_findSigns_9 ?_
  refine lv_iconst (v := (1 : Int32)) hx hb dX7_findSigns_10 (by decide) ?_
  refine lv_isub hx hb dX7_findSigns_11 ?_
  refine lv_topi (fun x1_12 ex1_12 => ?_)
  have hm := hm x1_12 ex1_12
  refine lv_istore_n (lv' := [(1, .int x1_12), (0, .ref (a 61))]) hx hb dX7_findSigns_12 rfl hl (by decide) rfl (fun ls hl => ?_)
  obtain ⟨n13, hm⟩ := hm
  exact L13 n13 x1_12 S_1 _ _ _ hm hP hS (lv_sub hl [1, 0] rfl)

abbrev rm_X7_flow : Room := { frames := 4, cells := 0, slots := 0, locals := 93 }
def X7_flow (S : ZS) (Q : Int32 → ZS → Prop) : Prop :=
  ∀ S_2 : ZS, S_2 = zu S 61 0 (0 : Int32) → X7_flowReason S_2 (fun r_6 S_6 => Q r_6 S_6)
set_option maxHeartbeats 4000000 in
set_option maxRecDepth 100000 in
theorem c_X7_flow (l : Launch) (D : va_G) (k : Nat → ClassId) (a : Nat → Nat) (hj : zDj a) (S : ZS) (Q : Int32 → ZS → Prop) (hm : X7_flow S Q) (sz : Nat) : Met l yX7_flow wsX7_flow rm_X7_flow (zPc D k a [.ref (a 61)] S sz) (va_Qi Q (zB D k a) (zA a sz)) 0 0 (zA a sz) := by
  refine Met.ofW (cc := cX7_flow) (maxL := 1) (ret := (some .int)) (by decide) rfl ?_
  intro p e s m args below meth c s₁ B hml hv
  obtain ⟨rfl, hsz, hP, hK⟩ := hv
  have hx := B.exec
  have hb := B.bytes
  have hr := B.returns
  have hts := atoms_spec (ws := wsX7_flow) B.pre
  have hown : s.vm.findClass RX7 = some m.cls := findClass_of_methodNamed B.named
  have hlocks := B.notSynchronized
  subst hsz
  have hS : va_S (zA a s.heap.size) s.heap s.heap [] := va_S.rf
  have hF : CallFix p m c cX7_flow 1 s _ wsX7_flow RX7 := ⟨hx, hb, hml, hown, hts⟩
  have i7 : ∀ w ∈ wsX70, w ∈ wsX7_flow := fun _ h => (List.mem_cons_of_mem _ (List.mem_append_right _ h))
  have hl := lv_entry ([.ref (a 61)]) (n := 1) (Nat.le_of_ble_eq_true rfl)
  rw [lg_entry_eq]
  generalize (lg_sl ([.ref (a 61)]) ++ List.replicate (1 - (lg_sl ([.ref (a 61)])).length) Slot.unset).toArray = ls at hl ⊢
  have hl : lv_has ls 1 [(0, .ref (a 61))] := hl
  unfold X7_flow at hm
  refine lv_aload_n hx hb dX7_flow_0 rfl (lv_at hl 0 rfl) ?_
  refine lv_iconst (v := (0 : Int32)) hx hb dX7_flow_1 (by decide) ?_
  refine zp_7_thrown hx hb hts i7 hown hj hK hP hS (hts _ (List.mem_of_getElem? (i := 1) rfl)) dX7_flow_2 (fun H locs hP hS => ?_)
  obtain ⟨S_2, eS_2⟩ : ∃ z : ZS, z = zu S 61 0 (0 : Int32) := ⟨_, rfl⟩
  rw [← eS_2] at hP
  have hm := hm S_2 eS_2
  refine lv_aload_n hx hb dX7_flow_5 rfl (lv_at hl 0 rfl) ?_
  refine z_cVi (As := []) (rest := []) hF hK hP hS zO_61 rfl rfl (c_X7_flowReason l D k a hj  S_2 _ hm _) (cwV 0 hts gX7_flow_X7_flowReason rfl rfl rfl (by decide +kernel) ⟨Nat.le_of_ble_eq_true rfl, Nat.le_of_ble_eq_true rfl⟩) rfl hl.1 rfl (Nat.le_of_ble_eq_true rfl) dX7_flow_6 ⟨Nat.zero_le _, Nat.zero_le _⟩ (fun r_6 S_6 H locs hm hP hS => ?_)
  exact z_reti hx hb hr hlocks hP hS hm dX7_flow_9

abbrev rm_X7_sign : Room := { frames := 4, cells := 0, slots := 0, locals := 93 }
def X7_sign_b27 (x1 : Int32) (t0 : Int32) (t1 : Int32) (S : ZS) (Q : Int32 → ZS → Prop) : Prop :=
  X7_passes t1 t0 S (fun r_27 S_27 => (r_27 = 0 → Q (0 : Int32) S_27) ∧ (¬ r_27 = 0 → X7_findSigns S_27 (fun S_36 => vp_in x1 8 ∧ Q (S_36.1 71 (x1).toNatClampNeg) S_36)))
def X7_sign_b14 (x1 : Int32) (t0 : Int32) (S : ZS) (Q : Int32 → ZS → Prop) : Prop :=
  X7_isRow x1 S (fun r_16 S_16 => (r_16 = 0 → X7_sign_b27 x1 (1 : Int32) t0 S_16 Q) ∧ (¬ r_16 = 0 → X7_sign_b27 x1 (0 : Int32) t0 S_16 Q))
def X7_sign (y1 : Int32) (S : ZS) (Q : Int32 → ZS → Prop) : Prop :=
  X7_flowReason S (fun r_2 S_2 => (r_2 = (-1 : Int32) → X7_sign_b14 y1 (0 : Int32) S_2 Q) ∧ (¬ r_2 = (-1 : Int32) → X7_sign_b14 y1 (1 : Int32) S_2 Q))
set_option maxHeartbeats 4000000 in
set_option maxRecDepth 100000 in
theorem c_X7_sign (l : Launch) (D : va_G) (k : Nat → ClassId) (a : Nat → Nat) (hj : zDj a) (y1 : Int32) (S : ZS) (Q : Int32 → ZS → Prop) (hm : X7_sign y1 S Q) (sz : Nat) : Met l yX7_sign wsX7_sign rm_X7_sign (zPc D k a [.ref (a 61), .int y1] S sz) (va_Qi Q (zB D k a) (zA a sz)) 0 0 (zA a sz) := by
  refine Met.ofW (cc := cX7_sign) (maxL := 2) (ret := (some .int)) (by decide) rfl ?_
  intro p e s m args below meth c s₁ B hml hv
  obtain ⟨rfl, hsz, hP, hK⟩ := hv
  have hx := B.exec
  have hb := B.bytes
  have hr := B.returns
  have hts := atoms_spec (ws := wsX7_sign) B.pre
  have hown : s.vm.findClass RX7 = some m.cls := findClass_of_methodNamed B.named
  have hlocks := B.notSynchronized
  subst hsz
  have hS : va_S (zA a s.heap.size) s.heap s.heap [] := va_S.rf
  have hF : CallFix p m c cX7_sign 2 s _ wsX7_sign RX7 := ⟨hx, hb, hml, hown, hts⟩
  have i7 : ∀ w ∈ wsX70, w ∈ wsX7_sign := fun _ h => (List.mem_cons_of_mem _ (List.mem_append_right _ h))
  have hl := lv_entry ([.ref (a 61), .int y1]) (n := 2) (Nat.le_of_ble_eq_true rfl)
  rw [lg_entry_eq]
  generalize (lg_sl ([.ref (a 61), .int y1]) ++ List.replicate (2 - (lg_sl ([.ref (a 61), .int y1])).length) Slot.unset).toArray = ls at hl ⊢
  have hl : lv_has ls 2 [(0, .ref (a 61)), (1, .int y1)] := hl
  have b14 : ∀ (x1 : Int32) (t0 : Int32) (S : ZS) (H : Heap) (locs : List Loc) (ls : Array Slot), X7_sign_b14 x1 t0 S Q → va_P D vwCl (zWS k a S) H → va_S (zA a s.heap.size) s.heap H locs → lv_has ls 2 [(0, .ref (a 61)), (1, .int x1)] → zWi p l e (headSpec wsX7_sign rm_X7_sign).room s m ([.ref (a 61), .int y1] : List Value) below meth c D k a Q H locs (F0 m 14 ls [.int t0, .ref (a 61)]) := by
    intro x1 t0 S H locs ls hm hP hS hl
    unfold X7_sign_b14 at hm
    have b27 : ∀ (x1 : Int32) (t0 : Int32) (t1 : Int32) (S : ZS) (H : Heap) (locs : List Loc) (ls : Array Slot), X7_sign_b27 x1 t0 t1 S Q → va_P D vwCl (zWS k a S) H → va_S (zA a s.heap.size) s.heap H locs → lv_has ls 2 [(0, .ref (a 61)), (1, .int x1)] → zWi p l e (headSpec wsX7_sign rm_X7_sign).room s m ([.ref (a 61), .int y1] : List Value) below meth c D k a Q H locs (F0 m 27 ls [.int t0, .int t1, .ref (a 61)]) := by
      intro x1 t0 t1 S H locs ls hm hP hS hl
      unfold X7_sign_b27 at hm
      refine z_cVi (As := [.int t1, .int t0]) (rest := []) hF hK hP hS zO_61 rfl rfl (c_X7_passes l D k a hj t1 t0 S _ hm _) (cwV 2 hts gX7_sign_X7_passes rfl rfl rfl (by decide +kernel) ⟨Nat.le_of_ble_eq_true rfl, Nat.le_of_ble_eq_true rfl⟩) rfl hl.1 rfl (Nat.le_of_ble_eq_true rfl) dX7_sign_27 ⟨Nat.zero_le _, Nat.zero_le _⟩ (fun r_27 S_27 H locs hm hP hS => ?_)
      refine lv_if_ne (tgt := 35) hx hb dX7_sign_30 (by decide) (fun c_30 => ?_) (fun c_30 => ?_)
      · have hm := hm.2 c_30
        refine lv_aload_n hx hb dX7_sign_35 rfl (lv_at hl 0 rfl) ?_
        refine z_cVv (As := []) (rest := []) hF hK hP hS zO_61 rfl rfl (c_X7_findSigns l D k a hj  S_27 _ hm _) (cwV 0 hts gX7_sign_X7_findSigns rfl rfl rfl (by decide +kernel) ⟨Nat.le_of_ble_eq_true rfl, Nat.le_of_ble_eq_true rfl⟩) rfl hl.1 rfl (Nat.le_of_ble_eq_true rfl) dX7_sign_36 ⟨Nat.zero_le _, Nat.zero_le _⟩ (fun S_36 H locs hm hP hS => ?_)
        refine lv_aload_n hx hb dX7_sign_39 rfl (lv_at hl 0 rfl) ?_
        refine zg_7_signs hx hb hts i7 hown hK hP (hts _ (List.mem_of_getElem? (i := 1) rfl)) dX7_sign_40 ?_
        refine lv_iload_n hx hb dX7_sign_43 rfl (lv_at hl 1 rfl) ?_
        obtain ⟨h_44, hm⟩ := hm
        refine z_iald hx hb hK hP zI_71 h_44 dX7_sign_44 ?_
        exact z_reti hx hb hr hlocks hP hS hm dX7_sign_45
      · have hm := hm.1 c_30
        refine lv_iconst (v := (0 : Int32)) hx hb dX7_sign_33 (by decide) ?_
        exact z_reti hx hb hr hlocks hP hS hm dX7_sign_34
    refine lv_aload_n hx hb dX7_sign_14 rfl (lv_at hl 0 rfl) ?_
    refine lv_iload_n hx hb dX7_sign_15 rfl (lv_at hl 1 rfl) ?_
    refine z_cVi (As := [.int x1]) (rest := [.int t0, .ref (a 61)]) hF hK hP hS zO_61 rfl rfl (c_X7_isRow l D k a hj x1 S _ hm _) (cwV 1 hts gX7_sign_X7_isRow rfl rfl rfl (by decide +kernel) ⟨Nat.le_of_ble_eq_true rfl, Nat.le_of_ble_eq_true rfl⟩) rfl hl.1 rfl (Nat.le_of_ble_eq_true rfl) dX7_sign_16 ⟨Nat.zero_le _, Nat.zero_le _⟩ (fun r_16 S_16 H locs hm hP hS => ?_)
    refine lv_if_ne (tgt := 26) hx hb dX7_sign_19 (by decide) (fun c_19 => ?_) (fun c_19 => ?_)
    · have hm := hm.2 c_19
      refine lv_iconst (v := (0 : Int32)) hx hb dX7_sign_26 (by decide) ?_
      exact b27 x1 (0 : Int32) t0 S_16 _ _ _ hm hP hS (lv_sub hl [0, 1] rfl)
    · have hm := hm.1 c_19
      refine lv_iconst (v := (1 : Int32)) hx hb dX7_sign_22 (by decide) ?_
      refine lv_goto (tgt := 27) hx hb dX7_sign_23 (by decide) ?_
      exact b27 x1 (1 : Int32) t0 S_16 _ _ _ hm hP hS (lv_sub hl [0, 1] rfl)
  unfold X7_sign at hm
  refine lv_aload_n hx hb dX7_sign_0 rfl (lv_at hl 0 rfl) ?_
  refine lv_aload_n hx hb dX7_sign_1 rfl (lv_at hl 0 rfl) ?_
  refine z_cVi (As := []) (rest := [.ref (a 61)]) hF hK hP hS zO_61 rfl rfl (c_X7_flowReason l D k a hj  S _ hm _) (cwV 0 hts gX7_sign_X7_flowReason rfl rfl rfl (by decide +kernel) ⟨Nat.le_of_ble_eq_true rfl, Nat.le_of_ble_eq_true rfl⟩) rfl hl.1 rfl (Nat.le_of_ble_eq_true rfl) dX7_sign_2 ⟨Nat.zero_le _, Nat.zero_le _⟩ (fun r_2 S_2 H locs hm hP hS => ?_)
  refine lv_iconst (v := (-1 : Int32)) hx hb dX7_sign_5 (by decide) ?_
  refine lv_icmp_eq (tgt := 13) hx hb dX7_sign_6 (by decide) (fun c_6 => ?_) (fun c_6 => ?_)
  · have hm := hm.1 c_6
    refine lv_iconst (v := (0 : Int32)) hx hb dX7_sign_13 (by decide) ?_
    exact b14 y1 (0 : Int32) S_2 _ _ _ hm hP hS (lv_sub hl [0, 1] rfl)
  · have hm := hm.2 c_6
    refine lv_iconst (v := (1 : Int32)) hx hb dX7_sign_9 (by decide) ?_
    refine lv_goto (tgt := 14) hx hb dX7_sign_10 (by decide) ?_
    exact b14 y1 (1 : Int32) S_2 _ _ _ hm hP hS (lv_sub hl [0, 1] rfl)

abbrev rm_X7_isInterval : Room := { frames := 1, cells := 0, slots := 0, locals := 25 }
def X7_isInterval_b105 (t0 : Int32) (S : ZS) (Q : Int32 → ZS → Prop) : Prop :=
  zbit t0 ∧ Q t0 S
def X7_isInterval_b104 (S : ZS) (Q : Int32 → ZS → Prop) : Prop :=
  X7_isInterval_b105 (0 : Int32) S Q
def X7_isInterval_b91 (x2 : Int32) (x3 : Int32) (S : ZS) (Q : Int32 → ZS → Prop) : Prop :=
  (x2 = 0 → X7_isInterval_b104 S Q) ∧ (¬ x2 = 0 → ((1 : Int32) < x3 → X7_isInterval_b104 S Q) ∧ (¬ (1 : Int32) < x3 → X7_isInterval_b105 (1 : Int32) S Q))
def X7_isInterval_b83 (x1 : Int32) (x2 : Int32) (x4 : Int32) (t0 : Int32) (t1 : Int32) (S : ZS) (Q : Int32 → ZS → Prop) (k7 : Int32 × Int32 × Int32 × ZS → Prop) : Prop :=
  ∀ x3_84 : Int32, x3_84 = (t1 + t0) → ∀ x4_85 : Int32, x4_85 = x4 + (1 : Int32) → k7 (x2, x3_84, x4_85, S)
def X7_isInterval_b82 (x1 : Int32) (x2 : Int32) (x4 : Int32) (t0 : Int32) (S : ZS) (Q : Int32 → ZS → Prop) (k7 : Int32 × Int32 × Int32 × ZS → Prop) : Prop :=
  X7_isInterval_b83 x1 x2 x4 (0 : Int32) t0 S Q k7
def X7_isInterval_b61 (x1 : Int32) (x3 : Int32) (x4 : Int32) (x5 : Int32) (t0 : Int32) (S : ZS) (Q : Int32 → ZS → Prop) (k7 : Int32 × Int32 × Int32 × ZS → Prop) : Prop :=
  (x5 = 0 → X7_coef x4 x1 S (fun r_72 S_72 => (r_72 = 0 → X7_isInterval_b82 x1 t0 x4 x3 S_72 Q k7) ∧ (¬ r_72 = 0 → X7_isInterval_b83 x1 t0 x4 (1 : Int32) x3 S_72 Q k7))) ∧ (¬ x5 = 0 → X7_isInterval_b82 x1 t0 x4 x3 S Q k7)
def X7_isInterval_b60 (x1 : Int32) (x3 : Int32) (x4 : Int32) (x5 : Int32) (S : ZS) (Q : Int32 → ZS → Prop) (k7 : Int32 × Int32 × Int32 × ZS → Prop) : Prop :=
  X7_isInterval_b61 x1 x3 x4 x5 (0 : Int32) S Q k7
def X7_isInterval_b34 (x1 : Int32) (x2 : Int32) (x3 : Int32) (x4 : Int32) (t0 : Int32) (S : ZS) (Q : Int32 → ZS → Prop) (k7 : Int32 × Int32 × Int32 × ZS → Prop) : Prop :=
  (x2 = 0 → X7_isInterval_b60 x1 x3 x4 t0 S Q k7) ∧ (¬ x2 = 0 → X7_coef x4 x1 S (fun r_44 S_44 => X7_within (Int32.toInt64 r_44) (0 : Int64) (1 : Int64) S_44 (fun r_50 S_50 => (r_50 = 0 → X7_isInterval_b60 x1 x3 x4 t0 S_50 Q k7) ∧ (¬ r_50 = 0 → X7_isInterval_b61 x1 x3 x4 t0 (1 : Int32) S_50 Q k7))))
def X7_isInterval_B7 (x1 : Int32) (x2 : Int32) (x3 : Int32) (x4 : Int32) (S : ZS) (Q : Int32 → ZS → Prop) (k7 : Int32 × Int32 × Int32 × ZS → Prop) : Prop :=
  ((S.1 61 2) ≤ x4 → X7_isInterval_b91 x2 x3 S Q) ∧ (¬ (S.1 61 2) ≤ x4 → (x4 = 0 → X7_isInterval_b34 x1 x2 x3 x4 (0 : Int32) S Q k7) ∧ (¬ x4 = 0 → X7_coef (x4 - (1 : Int32)) x1 S (fun r_31 S_31 => X7_isInterval_b34 x1 x2 x3 x4 r_31 S_31 Q k7)))
def X7_isInterval_L7 (x1 : Int32) (Q : Int32 → ZS → Prop) : (Int32 × Int32 × Int32 × ZS) → ((Int32 × Int32 × Int32 × ZS) → Prop) → Prop := fun st k7 => X7_isInterval_B7 x1 st.1 st.2.1 st.2.2.1 st.2.2.2 Q k7
def X7_isInterval (y1 : Int32) (S : ZS) (Q : Int32 → ZS → Prop) : Prop :=
  zl (X7_isInterval_L7 y1 Q) ((1 : Int32), (0 : Int32), (0 : Int32), S)
set_option maxHeartbeats 4000000 in
set_option maxRecDepth 100000 in
theorem c_X7_isInterval (l : Launch) (D : va_G) (k : Nat → ClassId) (a : Nat → Nat) (hj : zDj a) (y1 : Int32) (S : ZS) (Q : Int32 → ZS → Prop) (hm : X7_isInterval y1 S Q) (sz : Nat) : Met l yX7_isInterval wsX7_isInterval rm_X7_isInterval (zPc D k a [.ref (a 61), .int y1] S sz) (va_Qi Q (zB D k a) (zA a sz)) 0 0 (zA a sz) := by
  refine Met.ofW (cc := cX7_isInterval) (maxL := 6) (ret := (some .boolean)) (by decide) rfl ?_
  intro p e s m args below meth c s₁ B hml hv
  obtain ⟨rfl, hsz, hP, hK⟩ := hv
  have hx := B.exec
  have hb := B.bytes
  have hr := B.returns
  have hts := atoms_spec (ws := wsX7_isInterval) B.pre
  have hown : s.vm.findClass RX7 = some m.cls := findClass_of_methodNamed B.named
  have hlocks := B.notSynchronized
  subst hsz
  have hS : va_S (zA a s.heap.size) s.heap s.heap [] := va_S.rf
  have hF : CallFix p m c cX7_isInterval 6 s _ wsX7_isInterval RX7 := ⟨hx, hb, hml, hown, hts⟩
  have i7 : ∀ w ∈ wsX70, w ∈ wsX7_isInterval := fun _ h => (List.mem_cons_of_mem _ (List.mem_append_right _ h))
  have hl := lv_entry ([.ref (a 61), .int y1]) (n := 6) (Nat.le_of_ble_eq_true rfl)
  rw [lg_entry_eq]
  generalize (lg_sl ([.ref (a 61), .int y1]) ++ List.replicate (6 - (lg_sl ([.ref (a 61), .int y1])).length) Slot.unset).toArray = ls at hl ⊢
  have hl : lv_has ls 6 [(0, .ref (a 61)), (1, .int y1)] := hl
  have b91 : ∀ (x2 : Int32) (x3 : Int32) (S : ZS) (H : Heap) (locs : List Loc) (ls : Array Slot), X7_isInterval_b91 x2 x3 S Q → va_P D vwCl (zWS k a S) H → va_S (zA a s.heap.size) s.heap H locs → lv_has ls 6 [(0, .ref (a 61)), (2, .int x2), (3, .int x3)] → zWi p l e (headSpec wsX7_isInterval rm_X7_isInterval).room s m ([.ref (a 61), .int y1] : List Value) below meth c D k a Q H locs (F0 m 91 ls []) := by
    intro x2 x3 S H locs ls hm hP hS hl
    unfold X7_isInterval_b91 at hm
    have b105 : ∀ (t0 : Int32) (S : ZS) (H : Heap) (locs : List Loc) (ls : Array Slot), X7_isInterval_b105 t0 S Q → va_P D vwCl (zWS k a S) H → va_S (zA a s.heap.size) s.heap H locs → lv_has ls 6 [(0, .ref (a 61))] → zWi p l e (headSpec wsX7_isInterval rm_X7_isInterval).room s m ([.ref (a 61), .int y1] : List Value) below meth c D k a Q H locs (F0 m 105 ls [.int t0]) := by
      intro t0 S H locs ls hm hP hS hl
      unfold X7_isInterval_b105 at hm
      exact z_retz hx hb hr hlocks hP hS hm dX7_isInterval_105
    have b104 : ∀ (S : ZS) (H : Heap) (locs : List Loc) (ls : Array Slot), X7_isInterval_b104 S Q → va_P D vwCl (zWS k a S) H → va_S (zA a s.heap.size) s.heap H locs → lv_has ls 6 [(0, .ref (a 61))] → zWi p l e (headSpec wsX7_isInterval rm_X7_isInterval).room s m ([.ref (a 61), .int y1] : List Value) below meth c D k a Q H locs (F0 m 104 ls []) := by
      intro S H locs ls hm hP hS hl
      unfold X7_isInterval_b104 at hm
      refine lv_iconst (v := (0 : Int32)) hx hb dX7_isInterval_104 (by decide) ?_
      exact b105 (0 : Int32) S _ _ _ hm hP hS (lv_sub hl [0] rfl)
    refine lv_iload_n hx hb dX7_isInterval_91 rfl (lv_at hl 1 rfl) ?_
    refine lv_if_eq (tgt := 104) hx hb dX7_isInterval_92 (by decide) (fun c_92 => ?_) (fun c_92 => ?_)
    · have hm := hm.1 c_92
      exact b104  S _ _ _ hm hP hS (lv_sub hl [0] rfl)
    · have hm := hm.2 c_92
      refine lv_iload_n hx hb dX7_isInterval_95 rfl (lv_at hl 2 rfl) ?_
      refine lv_iconst (v := (1 : Int32)) hx hb dX7_isInterval_96 (by decide) ?_
      refine lv_icmp_gt (tgt := 104) hx hb dX7_isInterval_97 (by decide) (fun c_97 => ?_) (fun c_97 => ?_)
      · have hm := hm.1 c_97
        exact b104  S _ _ _ hm hP hS (lv_sub hl [0] rfl)
      · have hm := hm.2 c_97
        refine lv_iconst (v := (1 : Int32)) hx hb dX7_isInterval_100 (by decide) ?_
        refine lv_goto (tgt := 105) hx hb dX7_isInterval_101 (by decide) ?_
        exact b105 (1 : Int32) S _ _ _ hm hP hS (lv_sub hl [0] rfl)
  have L7 : ∀ (x1 : Int32) (n : Nat) (x2 : Int32) (x3 : Int32) (x4 : Int32) (S : ZS) (H : Heap) (locs : List Loc) (ls : Array Slot), zn (X7_isInterval_L7 x1 Q) n (x2, x3, x4, S) → va_P D vwCl (zWS k a S) H → va_S (zA a s.heap.size) s.heap H locs → lv_has ls 6 [(0, .ref (a 61)), (1, .int x1), (2, .int x2), (3, .int x3), (4, .int x4)] → zWi p l e (headSpec wsX7_isInterval rm_X7_isInterval).room s m ([.ref (a 61), .int y1] : List Value) below meth c D k a Q H locs (F0 m 7 ls []) := by
    intro x1 n
    induction n with
    | zero =>
      intro x2 x3 x4 S H locs ls hm
      exact hm.elim
    | succ n ih7 =>
      intro x2 x3 x4 S H locs ls hm hP hS hl
      have hm : X7_isInterval_B7 x1 x2 x3 x4 S Q (zn (X7_isInterval_L7 x1 Q) n) := hm
      generalize zn (X7_isInterval_L7 x1 Q) n = k7 at hm ih7
      unfold X7_isInterval_B7 at hm
      have b34 : ∀ (x2 : Int32) (x3 : Int32) (x4 : Int32) (t0 : Int32) (S : ZS) (H : Heap) (locs : List Loc) (ls : Array Slot), X7_isInterval_b34 x1 x2 x3 x4 t0 S Q k7 → va_P D vwCl (zWS k a S) H → va_S (zA a s.heap.size) s.heap H locs → lv_has ls 6 [(0, .ref (a 61)), (1, .int x1), (2, .int x2), (3, .int x3), (4, .int x4)] → zWi p l e (headSpec wsX7_isInterval rm_X7_isInterval).room s m ([.ref (a 61), .int y1] : List Value) below meth c D k a Q H locs (F0 m 34 ls [.int t0]) := by
        intro x2 x3 x4 t0 S H locs ls hm hP hS hl
        unfold X7_isInterval_b34 at hm
        have b61 : ∀ (x3 : Int32) (x4 : Int32) (x5 : Int32) (t0 : Int32) (S : ZS) (H : Heap) (locs : List Loc) (ls : Array Slot), X7_isInterval_b61 x1 x3 x4 x5 t0 S Q k7 → va_P D vwCl (zWS k a S) H → va_S (zA a s.heap.size) s.heap H locs → lv_has ls 6 [(0, .ref (a 61)), (1, .int x1), (3, .int x3), (4, .int x4), (5, .int x5)] → zWi p l e (headSpec wsX7_isInterval rm_X7_isInterval).room s m ([.ref (a 61), .int y1] : List Value) below meth c D k a Q H locs (F0 m 61 ls [.int t0]) := by
          intro x3 x4 x5 t0 S H locs ls hm hP hS hl
          unfold X7_isInterval_b61 at hm
          have b83 : ∀ (x2 : Int32) (x4 : Int32) (t0 : Int32) (t1 : Int32) (S : ZS) (H : Heap) (locs : List Loc) (ls : Array Slot), X7_isInterval_b83 x1 x2 x4 t0 t1 S Q k7 → va_P D vwCl (zWS k a S) H → va_S (zA a s.heap.size) s.heap H locs → lv_has ls 6 [(0, .ref (a 61)), (1, .int x1), (2, .int x2), (4, .int x4)] → zWi p l e (headSpec wsX7_isInterval rm_X7_isInterval).room s m ([.ref (a 61), .int y1] : List Value) below meth c D k a Q H locs (F0 m 83 ls [.int t0, .int t1]) := by
            intro x2 x4 t0 t1 S H locs ls hm hP hS hl
            unfold X7_isInterval_b83 at hm
            refine lv_iadd hx hb dX7_isInterval_83 ?_
            refine lv_topi (fun x3_84 ex3_84 => ?_)
            have hm := hm x3_84 ex3_84
            refine lv_istore_n (lv' := [(3, .int x3_84), (0, .ref (a 61)), (1, .int x1), (2, .int x2), (4, .int x4)]) hx hb dX7_isInterval_84 rfl hl (by decide) rfl (fun ls hl => ?_)
            obtain ⟨x4_85, ex4_85⟩ : ∃ y : Int32, y = x4 + (1 : Int32) := ⟨_, rfl⟩
            have hm := hm x4_85 ex4_85
            refine lv_iinc (v := x4_85) (lv' := [(4, .int x4_85), (3, .int x3_84), (0, .ref (a 61)), (1, .int x1), (2, .int x2)]) hx hb dX7_isInterval_85 hl (k := 4) rfl (by rw [ex4_85]; rfl) (by decide) rfl (fun ls hl => ?_)
            refine lv_goto (tgt := 7) hx hb dX7_isInterval_88 (by decide) ?_
            exact ih7 x2 x3_84 x4_85 S _ _ _ hm hP hS (lv_sub hl [2, 3, 4, 1, 0] rfl)
          have b82 : ∀ (x2 : Int32) (x4 : Int32) (t0 : Int32) (S : ZS) (H : Heap) (locs : List Loc) (ls : Array Slot), X7_isInterval_b82 x1 x2 x4 t0 S Q k7 → va_P D vwCl (zWS k a S) H → va_S (zA a s.heap.size) s.heap H locs → lv_has ls 6 [(0, .ref (a 61)), (1, .int x1), (2, .int x2), (4, .int x4)] → zWi p l e (headSpec wsX7_isInterval rm_X7_isInterval).room s m ([.ref (a 61), .int y1] : List Value) below meth c D k a Q H locs (F0 m 82 ls [.int t0]) := by
            intro x2 x4 t0 S H locs ls hm hP hS hl
            unfold X7_isInterval_b82 at hm
            refine lv_iconst (v := (0 : Int32)) hx hb dX7_isInterval_82 (by decide) ?_
            exact b83 x2 x4 (0 : Int32) t0 S _ _ _ hm hP hS (lv_sub hl [0, 1, 2, 3] rfl)
          refine lv_istore_n (lv' := [(2, .int t0), (0, .ref (a 61)), (1, .int x1), (3, .int x3), (4, .int x4), (5, .int x5)]) hx hb dX7_isInterval_61 rfl hl (by decide) rfl (fun ls hl => ?_)
          refine lv_iload_n hx hb dX7_isInterval_62 rfl (lv_at hl 3 rfl) ?_
          refine lv_iload hx hb dX7_isInterval_63 (lv_at hl 5 rfl) ?_
          refine lv_if_ne (tgt := 82) hx hb dX7_isInterval_65 (by decide) (fun c_65 => ?_) (fun c_65 => ?_)
          · have hm := hm.2 c_65
            exact b82 t0 x4 x3 S _ _ _ hm hP hS (lv_sub hl [1, 2, 0, 4] rfl)
          · have hm := hm.1 c_65
            refine lv_aload_n hx hb dX7_isInterval_68 rfl (lv_at hl 1 rfl) ?_
            refine lv_iload hx hb dX7_isInterval_69 (lv_at hl 4 rfl) ?_
            refine lv_iload_n hx hb dX7_isInterval_71 rfl (lv_at hl 2 rfl) ?_
            refine z_cVi (As := [.int x4, .int x1]) (rest := [.int x3]) hF hK hP hS zO_61 rfl rfl (c_X7_coef l D k a hj x4 x1 S _ hm _) (cwV 2 hts gX7_isInterval_X7_coef rfl rfl rfl (by decide +kernel) ⟨Nat.le_of_ble_eq_true rfl, Nat.le_of_ble_eq_true rfl⟩) rfl hl.1 rfl (Nat.le_of_ble_eq_true rfl) dX7_isInterval_72 ⟨Nat.zero_le _, Nat.zero_le _⟩ (fun r_72 S_72 H locs hm hP hS => ?_)
            refine lv_if_eq (tgt := 82) hx hb dX7_isInterval_75 (by decide) (fun c_75 => ?_) (fun c_75 => ?_)
            · have hm := hm.1 c_75
              exact b82 t0 x4 x3 S_72 _ _ _ hm hP hS (lv_sub hl [1, 2, 0, 4] rfl)
            · have hm := hm.2 c_75
              refine lv_iconst (v := (1 : Int32)) hx hb dX7_isInterval_78 (by decide) ?_
              refine lv_goto (tgt := 83) hx hb dX7_isInterval_79 (by decide) ?_
              exact b83 t0 x4 (1 : Int32) x3 S_72 _ _ _ hm hP hS (lv_sub hl [1, 2, 0, 4] rfl)
        have b60 : ∀ (x3 : Int32) (x4 : Int32) (x5 : Int32) (S : ZS) (H : Heap) (locs : List Loc) (ls : Array Slot), X7_isInterval_b60 x1 x3 x4 x5 S Q k7 → va_P D vwCl (zWS k a S) H → va_S (zA a s.heap.size) s.heap H locs → lv_has ls 6 [(0, .ref (a 61)), (1, .int x1), (3, .int x3), (4, .int x4), (5, .int x5)] → zWi p l e (headSpec wsX7_isInterval rm_X7_isInterval).room s m ([.ref (a 61), .int y1] : List Value) below meth c D k a Q H locs (F0 m 60 ls []) := by
          intro x3 x4 x5 S H locs ls hm hP hS hl
          unfold X7_isInterval_b60 at hm
          refine lv_iconst (v := (0 : Int32)) hx hb dX7_isInterval_60 (by decide) ?_
          exact b61 x3 x4 x5 (0 : Int32) S _ _ _ hm hP hS (lv_sub hl [0, 1, 2, 3, 4] rfl)
        refine lv_istore (lv' := [(5, .int t0), (0, .ref (a 61)), (1, .int x1), (2, .int x2), (3, .int x3), (4, .int x4)]) hx hb dX7_isInterval_34 hl (by decide) rfl (fun ls hl => ?_)
        refine lv_iload_n hx hb dX7_isInterval_36 rfl (lv_at hl 3 rfl) ?_
        refine lv_if_eq (tgt := 60) hx hb dX7_isInterval_37 (by decide) (fun c_37 => ?_) (fun c_37 => ?_)
        · have hm := hm.1 c_37
          exact b60 x3 x4 t0 S _ _ _ hm hP hS (lv_sub hl [1, 2, 4, 5, 0] rfl)
        · have hm := hm.2 c_37
          refine lv_aload_n hx hb dX7_isInterval_40 rfl (lv_at hl 1 rfl) ?_
          refine lv_iload hx hb dX7_isInterval_41 (lv_at hl 5 rfl) ?_
          refine lv_iload_n hx hb dX7_isInterval_43 rfl (lv_at hl 2 rfl) ?_
          refine z_cVi (As := [.int x4, .int x1]) (rest := []) hF hK hP hS zO_61 rfl rfl (c_X7_coef l D k a hj x4 x1 S _ hm _) (cwV 2 hts gX7_isInterval_X7_coef rfl rfl rfl (by decide +kernel) ⟨Nat.le_of_ble_eq_true rfl, Nat.le_of_ble_eq_true rfl⟩) rfl hl.1 rfl (Nat.le_of_ble_eq_true rfl) dX7_isInterval_44 ⟨Nat.zero_le _, Nat.zero_le _⟩ (fun r_44 S_44 H locs hm hP hS => ?_)
          refine lv_i2l hx hb dX7_isInterval_47 rfl ?_
          refine lv_lconst (v := (0 : Int64)) hx hb dX7_isInterval_48 (by decide) ?_
          refine lv_lconst (v := (1 : Int64)) hx hb dX7_isInterval_49 (by decide) ?_
          refine z_cSi (As := [.long (Int32.toInt64 r_44), .long (0 : Int64), .long (1 : Int64)]) (rest := []) hF hK hP hS (c_X7_within l D k a hj (Int32.toInt64 r_44) (0 : Int64) (1 : Int64) S_44 _ hm _) (va_cwS 3 hts gX7_isInterval_X7_within rfl rfl rfl (by decide +kernel) ⟨Nat.le_of_ble_eq_true rfl, Nat.le_of_ble_eq_true rfl⟩) rfl hl.1 rfl (Nat.le_of_ble_eq_true rfl) dX7_isInterval_50 ⟨Nat.zero_le _, Nat.zero_le _⟩ (fun r_50 S_50 H locs hm hP hS => ?_)
          refine lv_if_eq (tgt := 60) hx hb dX7_isInterval_53 (by decide) (fun c_53 => ?_) (fun c_53 => ?_)
          · have hm := hm.1 c_53
            exact b60 x3 x4 t0 S_50 _ _ _ hm hP hS (lv_sub hl [1, 2, 4, 5, 0] rfl)
          · have hm := hm.2 c_53
            refine lv_iconst (v := (1 : Int32)) hx hb dX7_isInterval_56 (by decide) ?_
            refine lv_goto (tgt := 61) hx hb dX7_isInterval_57 (by decide) ?_
            exact b61 x3 x4 t0 (1 : Int32) S_50 _ _ _ hm hP hS (lv_sub hl [1, 2, 4, 5, 0] rfl)
      refine lv_iload hx hb dX7_isInterval_7 (lv_at hl 4 rfl) ?_
      refine lv_aload_n hx hb dX7_isInterval_9 rfl (lv_at hl 0 rfl) ?_
      refine zg_7_rows hx hb hts i7 hown hK hP (hts _ (List.mem_of_getElem? (i := 1) rfl)) dX7_isInterval_10 ?_
      refine lv_icmp_ge (tgt := 91) hx hb dX7_isInterval_13 (by decide) (fun c_13 => ?_) (fun c_13 => ?_)
      · have hm := hm.1 c_13
        exact b91 x2 x3 S _ _ _ hm hP hS (lv_sub hl [0, 2, 3] rfl)
      · have hm := hm.2 c_13
        refine lv_iload hx hb dX7_isInterval_16 (lv_at hl 4 rfl) ?_
        refine lv_if_ne (tgt := 25) hx hb dX7_isInterval_18 (by decide) (fun c_18 => ?_) (fun c_18 => ?_)
        · have hm := hm.2 c_18
          refine lv_aload_n hx hb dX7_isInterval_25 rfl (lv_at hl 0 rfl) ?_
          refine lv_iload hx hb dX7_isInterval_26 (lv_at hl 4 rfl) ?_
          refine lv_iconst (v := (1 : Int32)) hx hb dX7_isInterval_28 (by decide) ?_
          refine lv_isub hx hb dX7_isInterval_29 ?_
          refine lv_iload_n hx hb dX7_isInterval_30 rfl (lv_at hl 1 rfl) ?_
          refine z_cVi (As := [.int (x4 - (1 : Int32)), .int x1]) (rest := []) hF hK hP hS zO_61 rfl rfl (c_X7_coef l D k a hj (x4 - (1 : Int32)) x1 S _ hm _) (cwV 2 hts gX7_isInterval_X7_coef rfl rfl rfl (by decide +kernel) ⟨Nat.le_of_ble_eq_true rfl, Nat.le_of_ble_eq_true rfl⟩) rfl hl.1 rfl (Nat.le_of_ble_eq_true rfl) dX7_isInterval_31 ⟨Nat.zero_le _, Nat.zero_le _⟩ (fun r_31 S_31 H locs hm hP hS => ?_)
          exact b34 x2 x3 x4 r_31 S_31 _ _ _ hm hP hS (lv_sub hl [0, 1, 2, 3, 4] rfl)
        · have hm := hm.1 c_18
          refine lv_iconst (v := (0 : Int32)) hx hb dX7_isInterval_21 (by decide) ?_
          refine lv_goto (tgt := 34) hx hb dX7_isInterval_22 (by decide) ?_
          exact b34 x2 x3 x4 (0 : Int32) S _ _ _ hm hP hS (lv_sub hl [0, 1, 2, 3, 4] rfl)
  unfold X7_isInterval at hm
  refine lv_iconst (v := (1 : Int32)) hx hb dX7_isInterval_0 (by decide) ?_
  refine lv_istore_n (lv' := [(2, .int (1 : Int32)), (0, .ref (a 61)), (1, .int y1)]) hx hb dX7_isInterval_1 rfl hl (by decide) rfl (fun ls hl => ?_)
  refine lv_iconst (v := (0 : Int32)) hx hb dX7_isInterval_2 (by decide) ?_
  refine lv_istore_n (lv' := [(3, .int (0 : Int32)), (2, .int (1 : Int32)), (0, .ref (a 61)), (1, .int y1)]) hx hb dX7_isInterval_3 rfl hl (by decide) rfl (fun ls hl => ?_)
  refine lv_iconst (v := (0 : Int32)) hx hb dX7_isInterval_4 (by decide) ?_
  refine lv_istore (lv' := [(4, .int (0 : Int32)), (3, .int (0 : Int32)), (2, .int (1 : Int32)), (0, .ref (a 61)), (1, .int y1)]) hx hb dX7_isInterval_5 hl (by decide) rfl (fun ls hl => ?_)
  obtain ⟨n7, hm⟩ := hm
  exact L7 y1 n7 (1 : Int32) (0 : Int32) (0 : Int32) S _ _ _ hm hP hS (lv_sub hl [3, 4, 2, 1, 0] rfl)

abbrev rm_X7_intervals : Room := { frames := 2, cells := 0, slots := 0, locals := 50 }
def X7_intervals_b31 (S : ZS) (Q : Int32 → ZS → Prop) : Prop :=
  Q (-1 : Int32) S
def X7_intervals_b23 (x1 : Int32) (S : ZS) (Q : Int32 → ZS → Prop) : Prop :=
  Q x1 S
def X7_intervals_B7 (x1 : Int32) (S : ZS) (Q : Int32 → ZS → Prop) (k7 : Int32 × ZS → Prop) : Prop :=
  ((S.1 61 1) ≤ x1 → X7_intervals_b31 S Q) ∧ (¬ (S.1 61 1) ≤ x1 → X7_isInterval x1 S (fun r_17 S_17 => (r_17 = 0 → X7_intervals_b23 x1 S_17 Q) ∧ (¬ r_17 = 0 → ∀ x1_25 : Int32, x1_25 = x1 + (1 : Int32) → k7 (x1_25, S_17))))
def X7_intervals_L7 (Q : Int32 → ZS → Prop) : (Int32 × ZS) → ((Int32 × ZS) → Prop) → Prop := fun st k7 => X7_intervals_B7 st.1 st.2 Q k7
def X7_intervals (S : ZS) (Q : Int32 → ZS → Prop) : Prop :=
  ∀ S_2 : ZS, S_2 = zu S 61 0 (0 : Int32) → zl (X7_intervals_L7 Q) ((0 : Int32), S_2)
set_option maxHeartbeats 4000000 in
set_option maxRecDepth 100000 in
theorem c_X7_intervals (l : Launch) (D : va_G) (k : Nat → ClassId) (a : Nat → Nat) (hj : zDj a) (S : ZS) (Q : Int32 → ZS → Prop) (hm : X7_intervals S Q) (sz : Nat) : Met l yX7_intervals wsX7_intervals rm_X7_intervals (zPc D k a [.ref (a 61)] S sz) (va_Qi Q (zB D k a) (zA a sz)) 0 0 (zA a sz) := by
  refine Met.ofW (cc := cX7_intervals) (maxL := 2) (ret := (some .int)) (by decide) rfl ?_
  intro p e s m args below meth c s₁ B hml hv
  obtain ⟨rfl, hsz, hP, hK⟩ := hv
  have hx := B.exec
  have hb := B.bytes
  have hr := B.returns
  have hts := atoms_spec (ws := wsX7_intervals) B.pre
  have hown : s.vm.findClass RX7 = some m.cls := findClass_of_methodNamed B.named
  have hlocks := B.notSynchronized
  subst hsz
  have hS : va_S (zA a s.heap.size) s.heap s.heap [] := va_S.rf
  have hF : CallFix p m c cX7_intervals 2 s _ wsX7_intervals RX7 := ⟨hx, hb, hml, hown, hts⟩
  have i7 : ∀ w ∈ wsX70, w ∈ wsX7_intervals := fun _ h => (List.mem_cons_of_mem _ (List.mem_append_right _ h))
  have hl := lv_entry ([.ref (a 61)]) (n := 2) (Nat.le_of_ble_eq_true rfl)
  rw [lg_entry_eq]
  generalize (lg_sl ([.ref (a 61)]) ++ List.replicate (2 - (lg_sl ([.ref (a 61)])).length) Slot.unset).toArray = ls at hl ⊢
  have hl : lv_has ls 2 [(0, .ref (a 61))] := hl
  have b31 : ∀ (S : ZS) (H : Heap) (locs : List Loc) (ls : Array Slot), X7_intervals_b31 S Q → va_P D vwCl (zWS k a S) H → va_S (zA a s.heap.size) s.heap H locs → lv_has ls 2 [(0, .ref (a 61))] → zWi p l e (headSpec wsX7_intervals rm_X7_intervals).room s m ([.ref (a 61)] : List Value) below meth c D k a Q H locs (F0 m 31 ls []) := by
    intro S H locs ls hm hP hS hl
    unfold X7_intervals_b31 at hm
    refine lv_iconst (v := (-1 : Int32)) hx hb dX7_intervals_31 (by decide) ?_
    exact z_reti hx hb hr hlocks hP hS hm dX7_intervals_32
  have b23 : ∀ (x1 : Int32) (S : ZS) (H : Heap) (locs : List Loc) (ls : Array Slot), X7_intervals_b23 x1 S Q → va_P D vwCl (zWS k a S) H → va_S (zA a s.heap.size) s.heap H locs → lv_has ls 2 [(0, .ref (a 61)), (1, .int x1)] → zWi p l e (headSpec wsX7_intervals rm_X7_intervals).room s m ([.ref (a 61)] : List Value) below meth c D k a Q H locs (F0 m 23 ls []) := by
    intro x1 S H locs ls hm hP hS hl
    unfold X7_intervals_b23 at hm
    refine lv_iload_n hx hb dX7_intervals_23 rfl (lv_at hl 1 rfl) ?_
    exact z_reti hx hb hr hlocks hP hS hm dX7_intervals_24
  have L7 : ∀ (n : Nat) (x1 : Int32) (S : ZS) (H : Heap) (locs : List Loc) (ls : Array Slot), zn (X7_intervals_L7 Q) n (x1, S) → va_P D vwCl (zWS k a S) H → va_S (zA a s.heap.size) s.heap H locs → lv_has ls 2 [(0, .ref (a 61)), (1, .int x1)] → zWi p l e (headSpec wsX7_intervals rm_X7_intervals).room s m ([.ref (a 61)] : List Value) below meth c D k a Q H locs (F0 m 7 ls []) := by
    intro n
    induction n with
    | zero =>
      intro x1 S H locs ls hm
      exact hm.elim
    | succ n ih7 =>
      intro x1 S H locs ls hm hP hS hl
      have hm : X7_intervals_B7 x1 S Q (zn (X7_intervals_L7 Q) n) := hm
      generalize zn (X7_intervals_L7 Q) n = k7 at hm ih7
      unfold X7_intervals_B7 at hm
      refine lv_iload_n hx hb dX7_intervals_7 rfl (lv_at hl 1 rfl) ?_
      refine lv_aload_n hx hb dX7_intervals_8 rfl (lv_at hl 0 rfl) ?_
      refine zg_7_columns hx hb hts i7 hown hK hP (hts _ (List.mem_of_getElem? (i := 2) rfl)) dX7_intervals_9 ?_
      refine lv_icmp_ge (tgt := 31) hx hb dX7_intervals_12 (by decide) (fun c_12 => ?_) (fun c_12 => ?_)
      · have hm := hm.1 c_12
        exact b31  S _ _ _ hm hP hS (lv_sub hl [0] rfl)
      · have hm := hm.2 c_12
        refine lv_aload_n hx hb dX7_intervals_15 rfl (lv_at hl 0 rfl) ?_
        refine lv_iload_n hx hb dX7_intervals_16 rfl (lv_at hl 1 rfl) ?_
        refine z_cVi (As := [.int x1]) (rest := []) hF hK hP hS zO_61 rfl rfl (c_X7_isInterval l D k a hj x1 S _ hm _) (cwV 1 hts gX7_intervals_X7_isInterval rfl rfl rfl (by decide +kernel) ⟨Nat.le_of_ble_eq_true rfl, Nat.le_of_ble_eq_true rfl⟩) rfl hl.1 rfl (Nat.le_of_ble_eq_true rfl) dX7_intervals_17 ⟨Nat.zero_le _, Nat.zero_le _⟩ (fun r_17 S_17 H locs hm hP hS => ?_)
        refine lv_if_ne (tgt := 25) hx hb dX7_intervals_20 (by decide) (fun c_20 => ?_) (fun c_20 => ?_)
        · have hm := hm.2 c_20
          obtain ⟨x1_25, ex1_25⟩ : ∃ y : Int32, y = x1 + (1 : Int32) := ⟨_, rfl⟩
          have hm := hm x1_25 ex1_25
          refine lv_iinc (v := x1_25) (lv' := [(1, .int x1_25), (0, .ref (a 61))]) hx hb dX7_intervals_25 hl (k := 1) rfl (by rw [ex1_25]; rfl) (by decide) rfl (fun ls hl => ?_)
          refine lv_goto (tgt := 7) hx hb dX7_intervals_28 (by decide) ?_
          exact ih7 x1_25 S_17 _ _ _ hm hP hS (lv_sub hl [1, 0] rfl)
        · have hm := hm.1 c_20
          exact b23 x1 S_17 _ _ _ hm hP hS (lv_sub hl [0, 1] rfl)
  unfold X7_intervals at hm
  refine lv_aload_n hx hb dX7_intervals_0 rfl (lv_at hl 0 rfl) ?_
  refine lv_iconst (v := (0 : Int32)) hx hb dX7_intervals_1 (by decide) ?_
  refine zp_7_thrown hx hb hts i7 hown hj hK hP hS (hts _ (List.mem_of_getElem? (i := 1) rfl)) dX7_intervals_2 (fun H locs hP hS => ?_)
  obtain ⟨S_2, eS_2⟩ : ∃ z : ZS, z = zu S 61 0 (0 : Int32) := ⟨_, rfl⟩
  rw [← eS_2] at hP
  have hm := hm S_2 eS_2
  refine lv_iconst (v := (0 : Int32)) hx hb dX7_intervals_5 (by decide) ?_
  refine lv_istore_n (lv' := [(1, .int (0 : Int32)), (0, .ref (a 61))]) hx hb dX7_intervals_6 rfl hl (by decide) rfl (fun ls hl => ?_)
  obtain ⟨n7, hm⟩ := hm
  exact L7 n7 (0 : Int32) S_2 _ _ _ hm hP hS (lv_sub hl [1, 0] rfl)

abbrev rm_X7_isEven : Room := { frames := 1, cells := 0, slots := 0, locals := 25 }
def X7_isEven_b102 (x3 : Int32) (S : ZS) (Q : Int32 → ZS → Prop) : Prop :=
  zbit x3 ∧ Q x3 S
def X7_isEven_b85 (x1 : Int32) (x2 : Int32) (x4 : Int32) (x5 : Int32) (S : ZS) (Q : Int32 → ZS → Prop) (k5 : Int32 × Int32 × ZS → Prop) : Prop :=
  X7_within (Int32.toInt64 x5) (-1 : Int64) (1 : Int64) S (fun r_92 S_92 => ∀ x4_96 : Int32, x4_96 = x4 + (1 : Int32) → k5 (r_92, x4_96, S_92))
def X7_isEven_b76 (x1 : Int32) (x2 : Int32) (x4 : Int32) (x6 : Int32) (t0 : Int32) (t1 : Int32) (S : ZS) (Q : Int32 → ZS → Prop) (k5 : Int32 × Int32 × ZS → Prop) (k24 : Int32 × Int32 × ZS → Prop) : Prop :=
  ∀ x5_77 : Int32, x5_77 = (t1 + t0) → ∀ x6_79 : Int32, x6_79 = x6 + (1 : Int32) → k24 (x5_77, x6_79, S)
def X7_isEven_b54 (x1 : Int32) (x2 : Int32) (x4 : Int32) (x5 : Int32) (x6 : Int32) (t0 : Int32) (S : ZS) (Q : Int32 → ZS → Prop) (k5 : Int32 × Int32 × ZS → Prop) (k24 : Int32 × Int32 × ZS → Prop) : Prop :=
  (((x2 >>> (x6 &&& 31)) &&& (1 : Int32)) = (1 : Int32) → X7_isEven_b76 x1 x2 x4 x6 (-t0) x5 S Q k5 k24) ∧ (¬ ((x2 >>> (x6 &&& 31)) &&& (1 : Int32)) = (1 : Int32) → X7_isEven_b76 x1 x2 x4 x6 t0 x5 S Q k5 k24)
def X7_isEven_B24 (x1 : Int32) (x2 : Int32) (x4 : Int32) (x5 : Int32) (x6 : Int32) (S : ZS) (Q : Int32 → ZS → Prop) (k5 : Int32 × Int32 × ZS → Prop) (k24 : Int32 × Int32 × ZS → Prop) : Prop :=
  ((S.1 61 2) ≤ x6 → X7_isEven_b85 x1 x2 x4 x5 S Q k5) ∧ (¬ (S.1 61 2) ≤ x6 → (((x1 >>> (x6 &&& 31)) &&& (1 : Int32)) = 0 → X7_isEven_b54 x1 x2 x4 x5 x6 (0 : Int32) S Q k5 k24) ∧ (¬ ((x1 >>> (x6 &&& 31)) &&& (1 : Int32)) = 0 → X7_coef x6 x4 S (fun r_51 S_51 => X7_isEven_b54 x1 x2 x4 x5 x6 r_51 S_51 Q k5 k24)))
def X7_isEven_L24 (x1 : Int32) (x2 : Int32) (x4 : Int32) (Q : Int32 → ZS → Prop) (k5 : Int32 × Int32 × ZS → Prop) : (Int32 × Int32 × ZS) → ((Int32 × Int32 × ZS) → Prop) → Prop := fun st k24 => X7_isEven_B24 x1 x2 x4 st.1 st.2.1 st.2.2 Q k5 k24
def X7_isEven_B5 (x1 : Int32) (x2 : Int32) (x3 : Int32) (x4 : Int32) (S : ZS) (Q : Int32 → ZS → Prop) (k5 : Int32 × Int32 × ZS → Prop) : Prop :=
  ((S.1 61 1) ≤ x4 → X7_isEven_b102 x3 S Q) ∧ (¬ (S.1 61 1) ≤ x4 → (x3 = 0 → X7_isEven_b102 x3 S Q) ∧ (¬ x3 = 0 → zl (X7_isEven_L24 x1 x2 x4 Q k5) ((0 : Int32), (0 : Int32), S)))
def X7_isEven_L5 (x1 : Int32) (x2 : Int32) (Q : Int32 → ZS → Prop) : (Int32 × Int32 × ZS) → ((Int32 × Int32 × ZS) → Prop) → Prop := fun st k5 => X7_isEven_B5 x1 x2 st.1 st.2.1 st.2.2 Q k5
def X7_isEven (y1 : Int32) (y2 : Int32) (S : ZS) (Q : Int32 → ZS → Prop) : Prop :=
  zl (X7_isEven_L5 y1 y2 Q) ((1 : Int32), (0 : Int32), S)
set_option maxHeartbeats 4000000 in
set_option maxRecDepth 100000 in
theorem c_X7_isEven (l : Launch) (D : va_G) (k : Nat → ClassId) (a : Nat → Nat) (hj : zDj a) (y1 : Int32) (y2 : Int32) (S : ZS) (Q : Int32 → ZS → Prop) (hm : X7_isEven y1 y2 S Q) (sz : Nat) : Met l yX7_isEven wsX7_isEven rm_X7_isEven (zPc D k a [.ref (a 61), .int y1, .int y2] S sz) (va_Qi Q (zB D k a) (zA a sz)) 0 0 (zA a sz) := by
  refine Met.ofW (cc := cX7_isEven) (maxL := 8) (ret := (some .boolean)) (by decide) rfl ?_
  intro p e s m args below meth c s₁ B hml hv
  obtain ⟨rfl, hsz, hP, hK⟩ := hv
  have hx := B.exec
  have hb := B.bytes
  have hr := B.returns
  have hts := atoms_spec (ws := wsX7_isEven) B.pre
  have hown : s.vm.findClass RX7 = some m.cls := findClass_of_methodNamed B.named
  have hlocks := B.notSynchronized
  subst hsz
  have hS : va_S (zA a s.heap.size) s.heap s.heap [] := va_S.rf
  have hF : CallFix p m c cX7_isEven 8 s _ wsX7_isEven RX7 := ⟨hx, hb, hml, hown, hts⟩
  have i7 : ∀ w ∈ wsX70, w ∈ wsX7_isEven := fun _ h => (List.mem_cons_of_mem _ (List.mem_append_right _ h))
  have hl := lv_entry ([.ref (a 61), .int y1, .int y2]) (n := 8) (Nat.le_of_ble_eq_true rfl)
  rw [lg_entry_eq]
  generalize (lg_sl ([.ref (a 61), .int y1, .int y2]) ++ List.replicate (8 - (lg_sl ([.ref (a 61), .int y1, .int y2])).length) Slot.unset).toArray = ls at hl ⊢
  have hl : lv_has ls 8 [(0, .ref (a 61)), (1, .int y1), (2, .int y2)] := hl
  have b102 : ∀ (x3 : Int32) (S : ZS) (H : Heap) (locs : List Loc) (ls : Array Slot), X7_isEven_b102 x3 S Q → va_P D vwCl (zWS k a S) H → va_S (zA a s.heap.size) s.heap H locs → lv_has ls 8 [(0, .ref (a 61)), (3, .int x3)] → zWi p l e (headSpec wsX7_isEven rm_X7_isEven).room s m ([.ref (a 61), .int y1, .int y2] : List Value) below meth c D k a Q H locs (F0 m 102 ls []) := by
    intro x3 S H locs ls hm hP hS hl
    unfold X7_isEven_b102 at hm
    refine lv_iload_n hx hb dX7_isEven_102 rfl (lv_at hl 1 rfl) ?_
    exact z_retz hx hb hr hlocks hP hS hm dX7_isEven_103
  have L5 : ∀ (x1 : Int32) (x2 : Int32) (n : Nat) (x3 : Int32) (x4 : Int32) (S : ZS) (H : Heap) (locs : List Loc) (ls : Array Slot), zn (X7_isEven_L5 x1 x2 Q) n (x3, x4, S) → va_P D vwCl (zWS k a S) H → va_S (zA a s.heap.size) s.heap H locs → lv_has ls 8 [(0, .ref (a 61)), (1, .int x1), (2, .int x2), (3, .int x3), (4, .int x4)] → zWi p l e (headSpec wsX7_isEven rm_X7_isEven).room s m ([.ref (a 61), .int y1, .int y2] : List Value) below meth c D k a Q H locs (F0 m 5 ls []) := by
    intro x1 x2 n
    induction n with
    | zero =>
      intro x3 x4 S H locs ls hm
      exact hm.elim
    | succ n ih5 =>
      intro x3 x4 S H locs ls hm hP hS hl
      have hm : X7_isEven_B5 x1 x2 x3 x4 S Q (zn (X7_isEven_L5 x1 x2 Q) n) := hm
      generalize zn (X7_isEven_L5 x1 x2 Q) n = k5 at hm ih5
      unfold X7_isEven_B5 at hm
      have b85 : ∀ (x4 : Int32) (x5 : Int32) (S : ZS) (H : Heap) (locs : List Loc) (ls : Array Slot), X7_isEven_b85 x1 x2 x4 x5 S Q k5 → va_P D vwCl (zWS k a S) H → va_S (zA a s.heap.size) s.heap H locs → lv_has ls 8 [(0, .ref (a 61)), (1, .int x1), (2, .int x2), (4, .int x4), (5, .int x5)] → zWi p l e (headSpec wsX7_isEven rm_X7_isEven).room s m ([.ref (a 61), .int y1, .int y2] : List Value) below meth c D k a Q H locs (F0 m 85 ls []) := by
        intro x4 x5 S H locs ls hm hP hS hl
        unfold X7_isEven_b85 at hm
        refine lv_iload hx hb dX7_isEven_85 (lv_at hl 4 rfl) ?_
        refine lv_i2l hx hb dX7_isEven_87 rfl ?_
        refine lv_ldc2 (v := (-1 : Int64)) hx hb hown (hts _ (List.mem_of_getElem? (i := 3) rfl)) dX7_isEven_88 ?_
        refine lv_lconst (v := (1 : Int64)) hx hb dX7_isEven_91 (by decide) ?_
        refine z_cSi (As := [.long (Int32.toInt64 x5), .long (-1 : Int64), .long (1 : Int64)]) (rest := []) hF hK hP hS (c_X7_within l D k a hj (Int32.toInt64 x5) (-1 : Int64) (1 : Int64) S _ hm _) (va_cwS 3 hts gX7_isEven_X7_within rfl rfl rfl (by decide +kernel) ⟨Nat.le_of_ble_eq_true rfl, Nat.le_of_ble_eq_true rfl⟩) rfl hl.1 rfl (Nat.le_of_ble_eq_true rfl) dX7_isEven_92 ⟨Nat.zero_le _, Nat.zero_le _⟩ (fun r_92 S_92 H locs hm hP hS => ?_)
        refine lv_istore_n (lv' := [(3, .int r_92), (0, .ref (a 61)), (1, .int x1), (2, .int x2), (4, .int x4), (5, .int x5)]) hx hb dX7_isEven_95 rfl hl (by decide) rfl (fun ls hl => ?_)
        obtain ⟨x4_96, ex4_96⟩ : ∃ y : Int32, y = x4 + (1 : Int32) := ⟨_, rfl⟩
        have hm := hm x4_96 ex4_96
        refine lv_iinc (v := x4_96) (lv' := [(4, .int x4_96), (3, .int r_92), (0, .ref (a 61)), (1, .int x1), (2, .int x2), (5, .int x5)]) hx hb dX7_isEven_96 hl (k := 4) rfl (by rw [ex4_96]; rfl) (by decide) rfl (fun ls hl => ?_)
        refine lv_goto (tgt := 5) hx hb dX7_isEven_99 (by decide) ?_
        exact ih5 r_92 x4_96 S_92 _ _ _ hm hP hS (lv_sub hl [2, 3, 4, 1, 0] rfl)
      have L24 : ∀ (x4 : Int32) (n : Nat) (x5 : Int32) (x6 : Int32) (S : ZS) (H : Heap) (locs : List Loc) (ls : Array Slot), zn (X7_isEven_L24 x1 x2 x4 Q k5) n (x5, x6, S) → va_P D vwCl (zWS k a S) H → va_S (zA a s.heap.size) s.heap H locs → lv_has ls 8 [(0, .ref (a 61)), (1, .int x1), (2, .int x2), (4, .int x4), (5, .int x5), (6, .int x6)] → zWi p l e (headSpec wsX7_isEven rm_X7_isEven).room s m ([.ref (a 61), .int y1, .int y2] : List Value) below meth c D k a Q H locs (F0 m 24 ls []) := by
        intro x4 n
        induction n with
        | zero =>
          intro x5 x6 S H locs ls hm
          exact hm.elim
        | succ n ih24 =>
          intro x5 x6 S H locs ls hm hP hS hl
          have hm : X7_isEven_B24 x1 x2 x4 x5 x6 S Q k5 (zn (X7_isEven_L24 x1 x2 x4 Q k5) n) := hm
          generalize zn (X7_isEven_L24 x1 x2 x4 Q k5) n = k24 at hm ih24
          unfold X7_isEven_B24 at hm
          have b54 : ∀ (x5 : Int32) (x6 : Int32) (t0 : Int32) (S : ZS) (H : Heap) (locs : List Loc) (ls : Array Slot), X7_isEven_b54 x1 x2 x4 x5 x6 t0 S Q k5 k24 → va_P D vwCl (zWS k a S) H → va_S (zA a s.heap.size) s.heap H locs → lv_has ls 8 [(0, .ref (a 61)), (1, .int x1), (2, .int x2), (4, .int x4), (5, .int x5), (6, .int x6)] → zWi p l e (headSpec wsX7_isEven rm_X7_isEven).room s m ([.ref (a 61), .int y1, .int y2] : List Value) below meth c D k a Q H locs (F0 m 54 ls [.int t0]) := by
            intro x5 x6 t0 S H locs ls hm hP hS hl
            unfold X7_isEven_b54 at hm
            have b76 : ∀ (x6 : Int32) (t0 : Int32) (t1 : Int32) (S : ZS) (H : Heap) (locs : List Loc) (ls : Array Slot), X7_isEven_b76 x1 x2 x4 x6 t0 t1 S Q k5 k24 → va_P D vwCl (zWS k a S) H → va_S (zA a s.heap.size) s.heap H locs → lv_has ls 8 [(0, .ref (a 61)), (1, .int x1), (2, .int x2), (4, .int x4), (6, .int x6)] → zWi p l e (headSpec wsX7_isEven rm_X7_isEven).room s m ([.ref (a 61), .int y1, .int y2] : List Value) below meth c D k a Q H locs (F0 m 76 ls [.int t0, .int t1]) := by
              intro x6 t0 t1 S H locs ls hm hP hS hl
              unfold X7_isEven_b76 at hm
              refine lv_iadd hx hb dX7_isEven_76 ?_
              refine lv_topi (fun x5_77 ex5_77 => ?_)
              have hm := hm x5_77 ex5_77
              refine lv_istore (lv' := [(5, .int x5_77), (0, .ref (a 61)), (1, .int x1), (2, .int x2), (4, .int x4), (6, .int x6)]) hx hb dX7_isEven_77 hl (by decide) rfl (fun ls hl => ?_)
              obtain ⟨x6_79, ex6_79⟩ : ∃ y : Int32, y = x6 + (1 : Int32) := ⟨_, rfl⟩
              have hm := hm x6_79 ex6_79
              refine lv_iinc (v := x6_79) (lv' := [(6, .int x6_79), (5, .int x5_77), (0, .ref (a 61)), (1, .int x1), (2, .int x2), (4, .int x4)]) hx hb dX7_isEven_79 hl (k := 5) rfl (by rw [ex6_79]; rfl) (by decide) rfl (fun ls hl => ?_)
              refine lv_goto (tgt := 24) hx hb dX7_isEven_82 (by decide) ?_
              exact ih24 x5_77 x6_79 S _ _ _ hm hP hS (lv_sub hl [2, 3, 4, 5, 1, 0] rfl)
            refine lv_istore (lv' := [(7, .int t0), (0, .ref (a 61)), (1, .int x1), (2, .int x2), (4, .int x4), (5, .int x5), (6, .int x6)]) hx hb dX7_isEven_54 hl (by decide) rfl (fun ls hl => ?_)
            refine lv_iload hx hb dX7_isEven_56 (lv_at hl 5 rfl) ?_
            refine lv_iload_n hx hb dX7_isEven_58 rfl (lv_at hl 3 rfl) ?_
            refine lv_iload hx hb dX7_isEven_59 (lv_at hl 6 rfl) ?_
            refine lv_ishr hx hb dX7_isEven_61 ?_
            refine lv_iconst (v := (1 : Int32)) hx hb dX7_isEven_62 (by decide) ?_
            refine lv_iand hx hb dX7_isEven_63 ?_
            refine lv_iconst (v := (1 : Int32)) hx hb dX7_isEven_64 (by decide) ?_
            refine lv_icmp_ne (tgt := 74) hx hb dX7_isEven_65 (by decide) (fun c_65 => ?_) (fun c_65 => ?_)
            · have hm := hm.2 c_65
              refine lv_iload hx hb dX7_isEven_74 (lv_at hl 0 rfl) ?_
              exact b76 x6 t0 x5 S _ _ _ hm hP hS (lv_sub hl [1, 2, 3, 4, 6] rfl)
            · have hm := hm.1 c_65
              refine lv_iload hx hb dX7_isEven_68 (lv_at hl 0 rfl) ?_
              refine lv_ineg hx hb dX7_isEven_70 ?_
              refine lv_goto (tgt := 76) hx hb dX7_isEven_71 (by decide) ?_
              exact b76 x6 (-t0) x5 S _ _ _ hm hP hS (lv_sub hl [1, 2, 3, 4, 6] rfl)
          refine lv_iload hx hb dX7_isEven_24 (lv_at hl 5 rfl) ?_
          refine lv_aload_n hx hb dX7_isEven_26 rfl (lv_at hl 0 rfl) ?_
          refine zg_7_rows hx hb hts i7 hown hK hP (hts _ (List.mem_of_getElem? (i := 2) rfl)) dX7_isEven_27 ?_
          refine lv_icmp_ge (tgt := 85) hx hb dX7_isEven_30 (by decide) (fun c_30 => ?_) (fun c_30 => ?_)
          · have hm := hm.1 c_30
            exact b85 x4 x5 S _ _ _ hm hP hS (lv_sub hl [0, 1, 2, 3, 4] rfl)
          · have hm := hm.2 c_30
            refine lv_iload_n hx hb dX7_isEven_33 rfl (lv_at hl 1 rfl) ?_
            refine lv_iload hx hb dX7_isEven_34 (lv_at hl 5 rfl) ?_
            refine lv_ishr hx hb dX7_isEven_36 ?_
            refine lv_iconst (v := (1 : Int32)) hx hb dX7_isEven_37 (by decide) ?_
            refine lv_iand hx hb dX7_isEven_38 ?_
            refine lv_if_ne (tgt := 46) hx hb dX7_isEven_39 (by decide) (fun c_39 => ?_) (fun c_39 => ?_)
            · have hm := hm.2 c_39
              refine lv_aload_n hx hb dX7_isEven_46 rfl (lv_at hl 0 rfl) ?_
              refine lv_iload hx hb dX7_isEven_47 (lv_at hl 5 rfl) ?_
              refine lv_iload hx hb dX7_isEven_49 (lv_at hl 3 rfl) ?_
              refine z_cVi (As := [.int x6, .int x4]) (rest := []) hF hK hP hS zO_61 rfl rfl (c_X7_coef l D k a hj x6 x4 S _ hm _) (cwV 2 hts gX7_isEven_X7_coef rfl rfl rfl (by decide +kernel) ⟨Nat.le_of_ble_eq_true rfl, Nat.le_of_ble_eq_true rfl⟩) rfl hl.1 rfl (Nat.le_of_ble_eq_true rfl) dX7_isEven_51 ⟨Nat.zero_le _, Nat.zero_le _⟩ (fun r_51 S_51 H locs hm hP hS => ?_)
              exact b54 x5 x6 r_51 S_51 _ _ _ hm hP hS (lv_sub hl [0, 1, 2, 3, 4, 5] rfl)
            · have hm := hm.1 c_39
              refine lv_iconst (v := (0 : Int32)) hx hb dX7_isEven_42 (by decide) ?_
              refine lv_goto (tgt := 54) hx hb dX7_isEven_43 (by decide) ?_
              exact b54 x5 x6 (0 : Int32) S _ _ _ hm hP hS (lv_sub hl [0, 1, 2, 3, 4, 5] rfl)
      refine lv_iload hx hb dX7_isEven_5 (lv_at hl 4 rfl) ?_
      refine lv_aload_n hx hb dX7_isEven_7 rfl (lv_at hl 0 rfl) ?_
      refine zg_7_columns hx hb hts i7 hown hK hP (hts _ (List.mem_of_getElem? (i := 1) rfl)) dX7_isEven_8 ?_
      refine lv_icmp_ge (tgt := 102) hx hb dX7_isEven_11 (by decide) (fun c_11 => ?_) (fun c_11 => ?_)
      · have hm := hm.1 c_11
        exact b102 x3 S _ _ _ hm hP hS (lv_sub hl [0, 3] rfl)
      · have hm := hm.2 c_11
        refine lv_iload_n hx hb dX7_isEven_14 rfl (lv_at hl 3 rfl) ?_
        refine lv_if_eq (tgt := 102) hx hb dX7_isEven_15 (by decide) (fun c_15 => ?_) (fun c_15 => ?_)
        · have hm := hm.1 c_15
          exact b102 x3 S _ _ _ hm hP hS (lv_sub hl [0, 3] rfl)
        · have hm := hm.2 c_15
          refine lv_iconst (v := (0 : Int32)) hx hb dX7_isEven_18 (by decide) ?_
          refine lv_istore (lv' := [(5, .int (0 : Int32)), (0, .ref (a 61)), (1, .int x1), (2, .int x2), (3, .int x3), (4, .int x4)]) hx hb dX7_isEven_19 hl (by decide) rfl (fun ls hl => ?_)
          refine lv_iconst (v := (0 : Int32)) hx hb dX7_isEven_21 (by decide) ?_
          refine lv_istore (lv' := [(6, .int (0 : Int32)), (5, .int (0 : Int32)), (0, .ref (a 61)), (1, .int x1), (2, .int x2), (3, .int x3), (4, .int x4)]) hx hb dX7_isEven_22 hl (by decide) rfl (fun ls hl => ?_)
          obtain ⟨n24, hm⟩ := hm
          exact L24 x4 n24 (0 : Int32) (0 : Int32) S _ _ _ hm hP hS (lv_sub hl [2, 3, 4, 6, 1, 0] rfl)
  unfold X7_isEven at hm
  refine lv_iconst (v := (1 : Int32)) hx hb dX7_isEven_0 (by decide) ?_
  refine lv_istore_n (lv' := [(3, .int (1 : Int32)), (0, .ref (a 61)), (1, .int y1), (2, .int y2)]) hx hb dX7_isEven_1 rfl hl (by decide) rfl (fun ls hl => ?_)
  refine lv_iconst (v := (0 : Int32)) hx hb dX7_isEven_2 (by decide) ?_
  refine lv_istore (lv' := [(4, .int (0 : Int32)), (3, .int (1 : Int32)), (0, .ref (a 61)), (1, .int y1), (2, .int y2)]) hx hb dX7_isEven_3 hl (by decide) rfl (fun ls hl => ?_)
  obtain ⟨n5, hm⟩ := hm
  exact L5 y1 y2 n5 (1 : Int32) (0 : Int32) S _ _ _ hm hP hS (lv_sub hl [2, 3, 4, 1, 0] rfl)

abbrev rm_X7_nature : Room := { frames := 2, cells := 0, slots := 0, locals := 52 }
def X7_nature_b70 (S : ZS) (Q : Int32 → ZS → Prop) : Prop :=
  Q (-1 : Int32) S
def X7_nature_b62 (x1 : Int32) (S : ZS) (Q : Int32 → ZS → Prop) : Prop :=
  Q x1 S
def X7_nature_b58 (x1 : Int32) (x2 : Int32) (S : ZS) (Q : Int32 → ZS → Prop) (k7 : Int32 × ZS → Prop) : Prop :=
  (x2 = 0 → X7_nature_b62 x1 S Q) ∧ (¬ x2 = 0 → ∀ x1_64 : Int32, x1_64 = x1 + (1 : Int32) → k7 (x1_64, S))
def X7_nature_b51 (x1 : Int32) (x3 : Int32) (t0 : Int32) (S : ZS) (Q : Int32 → ZS → Prop) (k7 : Int32 × ZS → Prop) (k21 : Int32 × Int32 × ZS → Prop) : Prop :=
  ∀ x3_52 : Int32, x3_52 = x3 + (-1 : Int32) → k21 (t0, x3_52, S)
def X7_nature_b50 (x1 : Int32) (x3 : Int32) (S : ZS) (Q : Int32 → ZS → Prop) (k7 : Int32 × ZS → Prop) (k21 : Int32 × Int32 × ZS → Prop) : Prop :=
  X7_nature_b51 x1 x3 (0 : Int32) S Q k7 k21
def X7_nature_B21 (x1 : Int32) (x2 : Int32) (x3 : Int32) (S : ZS) (Q : Int32 → ZS → Prop) (k7 : Int32 × ZS → Prop) (k21 : Int32 × Int32 × ZS → Prop) : Prop :=
  (x3 < 0 → X7_nature_b58 x1 x2 S Q k7) ∧ (¬ x3 < 0 → (x2 = 0 → ((x3 &&& (x1 ^^^ (-1 : Int32))) = 0 → X7_isEven x1 x3 S (fun r_40 S_40 => (r_40 = 0 → X7_nature_b50 x1 x3 S_40 Q k7 k21) ∧ (¬ r_40 = 0 → X7_nature_b51 x1 x3 (1 : Int32) S_40 Q k7 k21))) ∧ (¬ (x3 &&& (x1 ^^^ (-1 : Int32))) = 0 → X7_nature_b50 x1 x3 S Q k7 k21)) ∧ (¬ x2 = 0 → X7_nature_b58 x1 x2 S Q k7))
def X7_nature_L21 (x1 : Int32) (Q : Int32 → ZS → Prop) (k7 : Int32 × ZS → Prop) : (Int32 × Int32 × ZS) → ((Int32 × Int32 × ZS) → Prop) → Prop := fun st k21 => X7_nature_B21 x1 st.1 st.2.1 st.2.2 Q k7 k21
def X7_nature_B7 (x1 : Int32) (S : ZS) (Q : Int32 → ZS → Prop) (k7 : Int32 × ZS → Prop) : Prop :=
  (((1 : Int32) <<< ((S.1 61 2) &&& 31)) ≤ x1 → X7_nature_b70 S Q) ∧ (¬ ((1 : Int32) <<< ((S.1 61 2) &&& 31)) ≤ x1 → zl (X7_nature_L21 x1 Q k7) ((0 : Int32), x1, S))
def X7_nature_L7 (Q : Int32 → ZS → Prop) : (Int32 × ZS) → ((Int32 × ZS) → Prop) → Prop := fun st k7 => X7_nature_B7 st.1 st.2 Q k7
def X7_nature (S : ZS) (Q : Int32 → ZS → Prop) : Prop :=
  ∀ S_2 : ZS, S_2 = zu S 61 0 (0 : Int32) → zl (X7_nature_L7 Q) ((1 : Int32), S_2)
set_option maxHeartbeats 4000000 in
set_option maxRecDepth 100000 in
theorem c_X7_nature (l : Launch) (D : va_G) (k : Nat → ClassId) (a : Nat → Nat) (hj : zDj a) (S : ZS) (Q : Int32 → ZS → Prop) (hm : X7_nature S Q) (sz : Nat) : Met l yX7_nature wsX7_nature rm_X7_nature (zPc D k a [.ref (a 61)] S sz) (va_Qi Q (zB D k a) (zA a sz)) 0 0 (zA a sz) := by
  refine Met.ofW (cc := cX7_nature) (maxL := 4) (ret := (some .int)) (by decide) rfl ?_
  intro p e s m args below meth c s₁ B hml hv
  obtain ⟨rfl, hsz, hP, hK⟩ := hv
  have hx := B.exec
  have hb := B.bytes
  have hr := B.returns
  have hts := atoms_spec (ws := wsX7_nature) B.pre
  have hown : s.vm.findClass RX7 = some m.cls := findClass_of_methodNamed B.named
  have hlocks := B.notSynchronized
  subst hsz
  have hS : va_S (zA a s.heap.size) s.heap s.heap [] := va_S.rf
  have hF : CallFix p m c cX7_nature 4 s _ wsX7_nature RX7 := ⟨hx, hb, hml, hown, hts⟩
  have i7 : ∀ w ∈ wsX70, w ∈ wsX7_nature := fun _ h => (List.mem_cons_of_mem _ (List.mem_append_right _ h))
  have hl := lv_entry ([.ref (a 61)]) (n := 4) (Nat.le_of_ble_eq_true rfl)
  rw [lg_entry_eq]
  generalize (lg_sl ([.ref (a 61)]) ++ List.replicate (4 - (lg_sl ([.ref (a 61)])).length) Slot.unset).toArray = ls at hl ⊢
  have hl : lv_has ls 4 [(0, .ref (a 61))] := hl
  have b70 : ∀ (S : ZS) (H : Heap) (locs : List Loc) (ls : Array Slot), X7_nature_b70 S Q → va_P D vwCl (zWS k a S) H → va_S (zA a s.heap.size) s.heap H locs → lv_has ls 4 [(0, .ref (a 61))] → zWi p l e (headSpec wsX7_nature rm_X7_nature).room s m ([.ref (a 61)] : List Value) below meth c D k a Q H locs (F0 m 70 ls []) := by
    intro S H locs ls hm hP hS hl
    unfold X7_nature_b70 at hm
    refine lv_iconst (v := (-1 : Int32)) hx hb dX7_nature_70 (by decide) ?_
    exact z_reti hx hb hr hlocks hP hS hm dX7_nature_71
  have L7 : ∀ (n : Nat) (x1 : Int32) (S : ZS) (H : Heap) (locs : List Loc) (ls : Array Slot), zn (X7_nature_L7 Q) n (x1, S) → va_P D vwCl (zWS k a S) H → va_S (zA a s.heap.size) s.heap H locs → lv_has ls 4 [(0, .ref (a 61)), (1, .int x1)] → zWi p l e (headSpec wsX7_nature rm_X7_nature).room s m ([.ref (a 61)] : List Value) below meth c D k a Q H locs (F0 m 7 ls []) := by
    intro n
    induction n with
    | zero =>
      intro x1 S H locs ls hm
      exact hm.elim
    | succ n ih7 =>
      intro x1 S H locs ls hm hP hS hl
      have hm : X7_nature_B7 x1 S Q (zn (X7_nature_L7 Q) n) := hm
      generalize zn (X7_nature_L7 Q) n = k7 at hm ih7
      unfold X7_nature_B7 at hm
      have b58 : ∀ (x1 : Int32) (x2 : Int32) (S : ZS) (H : Heap) (locs : List Loc) (ls : Array Slot), X7_nature_b58 x1 x2 S Q k7 → va_P D vwCl (zWS k a S) H → va_S (zA a s.heap.size) s.heap H locs → lv_has ls 4 [(0, .ref (a 61)), (1, .int x1), (2, .int x2)] → zWi p l e (headSpec wsX7_nature rm_X7_nature).room s m ([.ref (a 61)] : List Value) below meth c D k a Q H locs (F0 m 58 ls []) := by
        intro x1 x2 S H locs ls hm hP hS hl
        unfold X7_nature_b58 at hm
        have b62 : ∀ (x1 : Int32) (S : ZS) (H : Heap) (locs : List Loc) (ls : Array Slot), X7_nature_b62 x1 S Q → va_P D vwCl (zWS k a S) H → va_S (zA a s.heap.size) s.heap H locs → lv_has ls 4 [(0, .ref (a 61)), (1, .int x1)] → zWi p l e (headSpec wsX7_nature rm_X7_nature).room s m ([.ref (a 61)] : List Value) below meth c D k a Q H locs (F0 m 62 ls []) := by
          intro x1 S H locs ls hm hP hS hl
          unfold X7_nature_b62 at hm
          refine lv_iload_n hx hb dX7_nature_62 rfl (lv_at hl 1 rfl) ?_
          exact z_reti hx hb hr hlocks hP hS hm dX7_nature_63
        refine lv_iload_n hx hb dX7_nature_58 rfl (lv_at hl 2 rfl) ?_
        refine lv_if_ne (tgt := 64) hx hb dX7_nature_59 (by decide) (fun c_59 => ?_) (fun c_59 => ?_)
        · have hm := hm.2 c_59
          obtain ⟨x1_64, ex1_64⟩ : ∃ y : Int32, y = x1 + (1 : Int32) := ⟨_, rfl⟩
          have hm := hm x1_64 ex1_64
          refine lv_iinc (v := x1_64) (lv' := [(1, .int x1_64), (0, .ref (a 61)), (2, .int x2)]) hx hb dX7_nature_64 hl (k := 1) rfl (by rw [ex1_64]; rfl) (by decide) rfl (fun ls hl => ?_)
          refine lv_goto (tgt := 7) hx hb dX7_nature_67 (by decide) ?_
          exact ih7 x1_64 S _ _ _ hm hP hS (lv_sub hl [1, 0] rfl)
        · have hm := hm.1 c_59
          exact b62 x1 S _ _ _ hm hP hS (lv_sub hl [0, 1] rfl)
      have L21 : ∀ (x1 : Int32) (n : Nat) (x2 : Int32) (x3 : Int32) (S : ZS) (H : Heap) (locs : List Loc) (ls : Array Slot), zn (X7_nature_L21 x1 Q k7) n (x2, x3, S) → va_P D vwCl (zWS k a S) H → va_S (zA a s.heap.size) s.heap H locs → lv_has ls 4 [(0, .ref (a 61)), (1, .int x1), (2, .int x2), (3, .int x3)] → zWi p l e (headSpec wsX7_nature rm_X7_nature).room s m ([.ref (a 61)] : List Value) below meth c D k a Q H locs (F0 m 21 ls []) := by
        intro x1 n
        induction n with
        | zero =>
          intro x2 x3 S H locs ls hm
          exact hm.elim
        | succ n ih21 =>
          intro x2 x3 S H locs ls hm hP hS hl
          have hm : X7_nature_B21 x1 x2 x3 S Q k7 (zn (X7_nature_L21 x1 Q k7) n) := hm
          generalize zn (X7_nature_L21 x1 Q k7) n = k21 at hm ih21
          unfold X7_nature_B21 at hm
          have b51 : ∀ (x3 : Int32) (t0 : Int32) (S : ZS) (H : Heap) (locs : List Loc) (ls : Array Slot), X7_nature_b51 x1 x3 t0 S Q k7 k21 → va_P D vwCl (zWS k a S) H → va_S (zA a s.heap.size) s.heap H locs → lv_has ls 4 [(0, .ref (a 61)), (1, .int x1), (3, .int x3)] → zWi p l e (headSpec wsX7_nature rm_X7_nature).room s m ([.ref (a 61)] : List Value) below meth c D k a Q H locs (F0 m 51 ls [.int t0]) := by
            intro x3 t0 S H locs ls hm hP hS hl
            unfold X7_nature_b51 at hm
            refine lv_istore_n (lv' := [(2, .int t0), (0, .ref (a 61)), (1, .int x1), (3, .int x3)]) hx hb dX7_nature_51 rfl hl (by decide) rfl (fun ls hl => ?_)
            obtain ⟨x3_52, ex3_52⟩ : ∃ y : Int32, y = x3 + (-1 : Int32) := ⟨_, rfl⟩
            have hm := hm x3_52 ex3_52
            refine lv_iinc (v := x3_52) (lv' := [(3, .int x3_52), (2, .int t0), (0, .ref (a 61)), (1, .int x1)]) hx hb dX7_nature_52 hl (k := 3) rfl (by rw [ex3_52]; rfl) (by decide) rfl (fun ls hl => ?_)
            refine lv_goto (tgt := 21) hx hb dX7_nature_55 (by decide) ?_
            exact ih21 t0 x3_52 S _ _ _ hm hP hS (lv_sub hl [2, 3, 1, 0] rfl)
          have b50 : ∀ (x3 : Int32) (S : ZS) (H : Heap) (locs : List Loc) (ls : Array Slot), X7_nature_b50 x1 x3 S Q k7 k21 → va_P D vwCl (zWS k a S) H → va_S (zA a s.heap.size) s.heap H locs → lv_has ls 4 [(0, .ref (a 61)), (1, .int x1), (3, .int x3)] → zWi p l e (headSpec wsX7_nature rm_X7_nature).room s m ([.ref (a 61)] : List Value) below meth c D k a Q H locs (F0 m 50 ls []) := by
            intro x3 S H locs ls hm hP hS hl
            unfold X7_nature_b50 at hm
            refine lv_iconst (v := (0 : Int32)) hx hb dX7_nature_50 (by decide) ?_
            exact b51 x3 (0 : Int32) S _ _ _ hm hP hS (lv_sub hl [0, 1, 2] rfl)
          refine lv_iload_n hx hb dX7_nature_21 rfl (lv_at hl 3 rfl) ?_
          refine lv_if_lt (tgt := 58) hx hb dX7_nature_22 (by decide) (fun c_22 => ?_) (fun c_22 => ?_)
          · have hm := hm.1 c_22
            exact b58 x1 x2 S _ _ _ hm hP hS (lv_sub hl [0, 1, 2] rfl)
          · have hm := hm.2 c_22
            refine lv_iload_n hx hb dX7_nature_25 rfl (lv_at hl 2 rfl) ?_
            refine lv_if_ne (tgt := 58) hx hb dX7_nature_26 (by decide) (fun c_26 => ?_) (fun c_26 => ?_)
            · have hm := hm.2 c_26
              exact b58 x1 x2 S _ _ _ hm hP hS (lv_sub hl [0, 1, 2] rfl)
            · have hm := hm.1 c_26
              refine lv_iload_n hx hb dX7_nature_29 rfl (lv_at hl 3 rfl) ?_
              refine lv_iload_n hx hb dX7_nature_30 rfl (lv_at hl 1 rfl) ?_
              refine lv_iconst (v := (-1 : Int32)) hx hb dX7_nature_31 (by decide) ?_
              refine lv_ixor hx hb dX7_nature_32 ?_
              refine lv_iand hx hb dX7_nature_33 ?_
              refine lv_if_ne (tgt := 50) hx hb dX7_nature_34 (by decide) (fun c_34 => ?_) (fun c_34 => ?_)
              · have hm := hm.2 c_34
                exact b50 x3 S _ _ _ hm hP hS (lv_sub hl [0, 1, 3] rfl)
              · have hm := hm.1 c_34
                refine lv_aload_n hx hb dX7_nature_37 rfl (lv_at hl 0 rfl) ?_
                refine lv_iload_n hx hb dX7_nature_38 rfl (lv_at hl 1 rfl) ?_
                refine lv_iload_n hx hb dX7_nature_39 rfl (lv_at hl 3 rfl) ?_
                refine z_cVi (As := [.int x1, .int x3]) (rest := []) hF hK hP hS zO_61 rfl rfl (c_X7_isEven l D k a hj x1 x3 S _ hm _) (cwV 2 hts gX7_nature_X7_isEven rfl rfl rfl (by decide +kernel) ⟨Nat.le_of_ble_eq_true rfl, Nat.le_of_ble_eq_true rfl⟩) rfl hl.1 rfl (Nat.le_of_ble_eq_true rfl) dX7_nature_40 ⟨Nat.zero_le _, Nat.zero_le _⟩ (fun r_40 S_40 H locs hm hP hS => ?_)
                refine lv_if_eq (tgt := 50) hx hb dX7_nature_43 (by decide) (fun c_43 => ?_) (fun c_43 => ?_)
                · have hm := hm.1 c_43
                  exact b50 x3 S_40 _ _ _ hm hP hS (lv_sub hl [0, 1, 3] rfl)
                · have hm := hm.2 c_43
                  refine lv_iconst (v := (1 : Int32)) hx hb dX7_nature_46 (by decide) ?_
                  refine lv_goto (tgt := 51) hx hb dX7_nature_47 (by decide) ?_
                  exact b51 x3 (1 : Int32) S_40 _ _ _ hm hP hS (lv_sub hl [0, 1, 3] rfl)
      refine lv_iload_n hx hb dX7_nature_7 rfl (lv_at hl 1 rfl) ?_
      refine lv_iconst (v := (1 : Int32)) hx hb dX7_nature_8 (by decide) ?_
      refine lv_aload_n hx hb dX7_nature_9 rfl (lv_at hl 0 rfl) ?_
      refine zg_7_rows hx hb hts i7 hown hK hP (hts _ (List.mem_of_getElem? (i := 2) rfl)) dX7_nature_10 ?_
      refine lv_ishl hx hb dX7_nature_13 ?_
      refine lv_icmp_ge (tgt := 70) hx hb dX7_nature_14 (by decide) (fun c_14 => ?_) (fun c_14 => ?_)
      · have hm := hm.1 c_14
        exact b70  S _ _ _ hm hP hS (lv_sub hl [0] rfl)
      · have hm := hm.2 c_14
        refine lv_iconst (v := (0 : Int32)) hx hb dX7_nature_17 (by decide) ?_
        refine lv_istore_n (lv' := [(2, .int (0 : Int32)), (0, .ref (a 61)), (1, .int x1)]) hx hb dX7_nature_18 rfl hl (by decide) rfl (fun ls hl => ?_)
        refine lv_iload_n hx hb dX7_nature_19 rfl (lv_at hl 2 rfl) ?_
        refine lv_istore_n (lv' := [(3, .int x1), (2, .int (0 : Int32)), (0, .ref (a 61)), (1, .int x1)]) hx hb dX7_nature_20 rfl hl (by decide) rfl (fun ls hl => ?_)
        obtain ⟨n21, hm⟩ := hm
        exact L21 x1 n21 (0 : Int32) x1 S _ _ _ hm hP hS (lv_sub hl [2, 3, 1, 0] rfl)
  unfold X7_nature at hm
  refine lv_aload_n hx hb dX7_nature_0 rfl (lv_at hl 0 rfl) ?_
  refine lv_iconst (v := (0 : Int32)) hx hb dX7_nature_1 (by decide) ?_
  refine zp_7_thrown hx hb hts i7 hown hj hK hP hS (hts _ (List.mem_of_getElem? (i := 1) rfl)) dX7_nature_2 (fun H locs hP hS => ?_)
  obtain ⟨S_2, eS_2⟩ : ∃ z : ZS, z = zu S 61 0 (0 : Int32) := ⟨_, rfl⟩
  rw [← eS_2] at hP
  have hm := hm S_2 eS_2
  refine lv_iconst (v := (1 : Int32)) hx hb dX7_nature_5 (by decide) ?_
  refine lv_istore_n (lv' := [(1, .int (1 : Int32)), (0, .ref (a 61))]) hx hb dX7_nature_6 rfl hl (by decide) rfl (fun ls hl => ?_)
  obtain ⟨n7, hm⟩ := hm
  exact L7 n7 (1 : Int32) S_2 _ _ _ hm hP hS (lv_sub hl [1, 0] rfl)

abbrev rm_X7_isKnapsack : Room := { frames := 1, cells := 0, slots := 0, locals := 25 }
def X7_isKnapsack_b84 (x1 : Int32) (S : ZS) (Q : Int32 → ZS → Prop) : Prop :=
  zbit x1 ∧ Q x1 S
def X7_isKnapsack_b77 (x2 : Int32) (t0 : Int32) (S : ZS) (Q : Int32 → ZS → Prop) (k42 : Int32 × Int32 × ZS → Prop) : Prop :=
  ∀ x2_78 : Int32, x2_78 = x2 + (1 : Int32) → k42 (t0, x2_78, S)
def X7_isKnapsack_b76 (x2 : Int32) (S : ZS) (Q : Int32 → ZS → Prop) (k42 : Int32 × Int32 × ZS → Prop) : Prop :=
  X7_isKnapsack_b77 x2 (0 : Int32) S Q k42
def X7_isKnapsack_B42 (x1 : Int32) (x2 : Int32) (S : ZS) (Q : Int32 → ZS → Prop) (k42 : Int32 × Int32 × ZS → Prop) : Prop :=
  ((S.1 61 1) ≤ x2 → X7_isKnapsack_b84 x1 S Q) ∧ (¬ (S.1 61 1) ≤ x2 → (x1 = 0 → X7_isKnapsack_b76 x2 S Q k42) ∧ (¬ x1 = 0 → X7_coef (0 : Int32) x2 S (fun r_57 S_57 => (r_57 ≤ 0 → X7_isKnapsack_b76 x2 S_57 Q k42) ∧ (¬ r_57 ≤ 0 → vp_in x2 10 ∧ ((S_57.1 62 (x2).toNatClampNeg) = 0 → X7_isKnapsack_b77 x2 (1 : Int32) S_57 Q k42) ∧ (¬ (S_57.1 62 (x2).toNatClampNeg) = 0 → X7_isKnapsack_b76 x2 S_57 Q k42)))))
def X7_isKnapsack_L42 (Q : Int32 → ZS → Prop) : (Int32 × Int32 × ZS) → ((Int32 × Int32 × ZS) → Prop) → Prop := fun st k42 => X7_isKnapsack_B42 st.1 st.2.1 st.2.2 Q k42
def X7_isKnapsack_b39 (t0 : Int32) (S : ZS) (Q : Int32 → ZS → Prop) : Prop :=
  zl (X7_isKnapsack_L42 Q) (t0, (0 : Int32), S)
def X7_isKnapsack_b38 (S : ZS) (Q : Int32 → ZS → Prop) : Prop :=
  X7_isKnapsack_b39 (0 : Int32) S Q
def X7_isKnapsack (S : ZS) (Q : Int32 → ZS → Prop) : Prop :=
  ((S.1 61 2) = (1 : Int32) → vp_in (0 : Int32) 8 ∧ ((S.1 65 ((0 : Int32)).toNatClampNeg) = 0 → vp_in (0 : Int32) 8 ∧ X7_within (Int32.toInt64 (S.1 66 ((0 : Int32)).toNatClampNeg)) (0 : Int64) (300 : Int64) S (fun r_28 S_28 => (r_28 = 0 → X7_isKnapsack_b38 S_28 Q) ∧ (¬ r_28 = 0 → X7_isKnapsack_b39 (1 : Int32) S_28 Q))) ∧ (¬ (S.1 65 ((0 : Int32)).toNatClampNeg) = 0 → X7_isKnapsack_b38 S Q)) ∧ (¬ (S.1 61 2) = (1 : Int32) → X7_isKnapsack_b38 S Q)
set_option maxHeartbeats 4000000 in
set_option maxRecDepth 100000 in
theorem c_X7_isKnapsack (l : Launch) (D : va_G) (k : Nat → ClassId) (a : Nat → Nat) (hj : zDj a) (S : ZS) (Q : Int32 → ZS → Prop) (hm : X7_isKnapsack S Q) (sz : Nat) : Met l yX7_isKnapsack wsX7_isKnapsack rm_X7_isKnapsack (zPc D k a [.ref (a 61)] S sz) (va_Qi Q (zB D k a) (zA a sz)) 0 0 (zA a sz) := by
  refine Met.ofW (cc := cX7_isKnapsack) (maxL := 3) (ret := (some .boolean)) (by decide) rfl ?_
  intro p e s m args below meth c s₁ B hml hv
  obtain ⟨rfl, hsz, hP, hK⟩ := hv
  have hx := B.exec
  have hb := B.bytes
  have hr := B.returns
  have hts := atoms_spec (ws := wsX7_isKnapsack) B.pre
  have hown : s.vm.findClass RX7 = some m.cls := findClass_of_methodNamed B.named
  have hlocks := B.notSynchronized
  subst hsz
  have hS : va_S (zA a s.heap.size) s.heap s.heap [] := va_S.rf
  have hF : CallFix p m c cX7_isKnapsack 3 s _ wsX7_isKnapsack RX7 := ⟨hx, hb, hml, hown, hts⟩
  have i7 : ∀ w ∈ wsX70, w ∈ wsX7_isKnapsack := fun _ h => (List.mem_cons_of_mem _ (List.mem_append_right _ h))
  have hl := lv_entry ([.ref (a 61)]) (n := 3) (Nat.le_of_ble_eq_true rfl)
  rw [lg_entry_eq]
  generalize (lg_sl ([.ref (a 61)]) ++ List.replicate (3 - (lg_sl ([.ref (a 61)])).length) Slot.unset).toArray = ls at hl ⊢
  have hl : lv_has ls 3 [(0, .ref (a 61))] := hl
  have b39 : ∀ (t0 : Int32) (S : ZS) (H : Heap) (locs : List Loc) (ls : Array Slot), X7_isKnapsack_b39 t0 S Q → va_P D vwCl (zWS k a S) H → va_S (zA a s.heap.size) s.heap H locs → lv_has ls 3 [(0, .ref (a 61))] → zWi p l e (headSpec wsX7_isKnapsack rm_X7_isKnapsack).room s m ([.ref (a 61)] : List Value) below meth c D k a Q H locs (F0 m 39 ls [.int t0]) := by
    intro t0 S H locs ls hm hP hS hl
    unfold X7_isKnapsack_b39 at hm
    have b84 : ∀ (x1 : Int32) (S : ZS) (H : Heap) (locs : List Loc) (ls : Array Slot), X7_isKnapsack_b84 x1 S Q → va_P D vwCl (zWS k a S) H → va_S (zA a s.heap.size) s.heap H locs → lv_has ls 3 [(0, .ref (a 61)), (1, .int x1)] → zWi p l e (headSpec wsX7_isKnapsack rm_X7_isKnapsack).room s m ([.ref (a 61)] : List Value) below meth c D k a Q H locs (F0 m 84 ls []) := by
      intro x1 S H locs ls hm hP hS hl
      unfold X7_isKnapsack_b84 at hm
      refine lv_iload_n hx hb dX7_isKnapsack_84 rfl (lv_at hl 1 rfl) ?_
      exact z_retz hx hb hr hlocks hP hS hm dX7_isKnapsack_85
    have L42 : ∀ (n : Nat) (x1 : Int32) (x2 : Int32) (S : ZS) (H : Heap) (locs : List Loc) (ls : Array Slot), zn (X7_isKnapsack_L42 Q) n (x1, x2, S) → va_P D vwCl (zWS k a S) H → va_S (zA a s.heap.size) s.heap H locs → lv_has ls 3 [(0, .ref (a 61)), (1, .int x1), (2, .int x2)] → zWi p l e (headSpec wsX7_isKnapsack rm_X7_isKnapsack).room s m ([.ref (a 61)] : List Value) below meth c D k a Q H locs (F0 m 42 ls []) := by
      intro n
      induction n with
      | zero =>
        intro x1 x2 S H locs ls hm
        exact hm.elim
      | succ n ih42 =>
        intro x1 x2 S H locs ls hm hP hS hl
        have hm : X7_isKnapsack_B42 x1 x2 S Q (zn (X7_isKnapsack_L42 Q) n) := hm
        generalize zn (X7_isKnapsack_L42 Q) n = k42 at hm ih42
        unfold X7_isKnapsack_B42 at hm
        have b77 : ∀ (x2 : Int32) (t0 : Int32) (S : ZS) (H : Heap) (locs : List Loc) (ls : Array Slot), X7_isKnapsack_b77 x2 t0 S Q k42 → va_P D vwCl (zWS k a S) H → va_S (zA a s.heap.size) s.heap H locs → lv_has ls 3 [(0, .ref (a 61)), (2, .int x2)] → zWi p l e (headSpec wsX7_isKnapsack rm_X7_isKnapsack).room s m ([.ref (a 61)] : List Value) below meth c D k a Q H locs (F0 m 77 ls [.int t0]) := by
          intro x2 t0 S H locs ls hm hP hS hl
          unfold X7_isKnapsack_b77 at hm
          refine lv_istore_n (lv' := [(1, .int t0), (0, .ref (a 61)), (2, .int x2)]) hx hb dX7_isKnapsack_77 rfl hl (by decide) rfl (fun ls hl => ?_)
          obtain ⟨x2_78, ex2_78⟩ : ∃ y : Int32, y = x2 + (1 : Int32) := ⟨_, rfl⟩
          have hm := hm x2_78 ex2_78
          refine lv_iinc (v := x2_78) (lv' := [(2, .int x2_78), (1, .int t0), (0, .ref (a 61))]) hx hb dX7_isKnapsack_78 hl (k := 2) rfl (by rw [ex2_78]; rfl) (by decide) rfl (fun ls hl => ?_)
          refine lv_goto (tgt := 42) hx hb dX7_isKnapsack_81 (by decide) ?_
          exact ih42 t0 x2_78 S _ _ _ hm hP hS (lv_sub hl [2, 1, 0] rfl)
        have b76 : ∀ (x2 : Int32) (S : ZS) (H : Heap) (locs : List Loc) (ls : Array Slot), X7_isKnapsack_b76 x2 S Q k42 → va_P D vwCl (zWS k a S) H → va_S (zA a s.heap.size) s.heap H locs → lv_has ls 3 [(0, .ref (a 61)), (2, .int x2)] → zWi p l e (headSpec wsX7_isKnapsack rm_X7_isKnapsack).room s m ([.ref (a 61)] : List Value) below meth c D k a Q H locs (F0 m 76 ls []) := by
          intro x2 S H locs ls hm hP hS hl
          unfold X7_isKnapsack_b76 at hm
          refine lv_iconst (v := (0 : Int32)) hx hb dX7_isKnapsack_76 (by decide) ?_
          exact b77 x2 (0 : Int32) S _ _ _ hm hP hS (lv_sub hl [0, 1] rfl)
        refine lv_iload_n hx hb dX7_isKnapsack_42 rfl (lv_at hl 2 rfl) ?_
        refine lv_aload_n hx hb dX7_isKnapsack_43 rfl (lv_at hl 0 rfl) ?_
        refine zg_7_columns hx hb hts i7 hown hK hP (hts _ (List.mem_of_getElem? (i := 5) rfl)) dX7_isKnapsack_44 ?_
        refine lv_icmp_ge (tgt := 84) hx hb dX7_isKnapsack_47 (by decide) (fun c_47 => ?_) (fun c_47 => ?_)
        · have hm := hm.1 c_47
          exact b84 x1 S _ _ _ hm hP hS (lv_sub hl [0, 1] rfl)
        · have hm := hm.2 c_47
          refine lv_iload_n hx hb dX7_isKnapsack_50 rfl (lv_at hl 1 rfl) ?_
          refine lv_if_eq (tgt := 76) hx hb dX7_isKnapsack_51 (by decide) (fun c_51 => ?_) (fun c_51 => ?_)
          · have hm := hm.1 c_51
            exact b76 x2 S _ _ _ hm hP hS (lv_sub hl [0, 2] rfl)
          · have hm := hm.2 c_51
            refine lv_aload_n hx hb dX7_isKnapsack_54 rfl (lv_at hl 0 rfl) ?_
            refine lv_iconst (v := (0 : Int32)) hx hb dX7_isKnapsack_55 (by decide) ?_
            refine lv_iload_n hx hb dX7_isKnapsack_56 rfl (lv_at hl 2 rfl) ?_
            refine z_cVi (As := [.int (0 : Int32), .int x2]) (rest := []) hF hK hP hS zO_61 rfl rfl (c_X7_coef l D k a hj (0 : Int32) x2 S _ hm _) (cwV 2 hts gX7_isKnapsack_X7_coef rfl rfl rfl (by decide +kernel) ⟨Nat.le_of_ble_eq_true rfl, Nat.le_of_ble_eq_true rfl⟩) rfl hl.1 rfl (Nat.le_of_ble_eq_true rfl) dX7_isKnapsack_57 ⟨Nat.zero_le _, Nat.zero_le _⟩ (fun r_57 S_57 H locs hm hP hS => ?_)
            refine lv_if_le (tgt := 76) hx hb dX7_isKnapsack_60 (by decide) (fun c_60 => ?_) (fun c_60 => ?_)
            · have hm := hm.1 c_60
              exact b76 x2 S_57 _ _ _ hm hP hS (lv_sub hl [0, 2] rfl)
            · have hm := hm.2 c_60
              refine lv_aload_n hx hb dX7_isKnapsack_63 rfl (lv_at hl 0 rfl) ?_
              refine zg_7_lows hx hb hts i7 hown hK hP (hts _ (List.mem_of_getElem? (i := 6) rfl)) dX7_isKnapsack_64 ?_
              refine lv_iload_n hx hb dX7_isKnapsack_67 rfl (lv_at hl 2 rfl) ?_
              obtain ⟨h_68, hm⟩ := hm
              refine z_iald hx hb hK hP zI_62 h_68 dX7_isKnapsack_68 ?_
              refine lv_if_ne (tgt := 76) hx hb dX7_isKnapsack_69 (by decide) (fun c_69 => ?_) (fun c_69 => ?_)
              · have hm := hm.2 c_69
                exact b76 x2 S_57 _ _ _ hm hP hS (lv_sub hl [0, 2] rfl)
              · have hm := hm.1 c_69
                refine lv_iconst (v := (1 : Int32)) hx hb dX7_isKnapsack_72 (by decide) ?_
                refine lv_goto (tgt := 77) hx hb dX7_isKnapsack_73 (by decide) ?_
                exact b77 x2 (1 : Int32) S_57 _ _ _ hm hP hS (lv_sub hl [0, 2] rfl)
    refine lv_istore_n (lv' := [(1, .int t0), (0, .ref (a 61))]) hx hb dX7_isKnapsack_39 rfl hl (by decide) rfl (fun ls hl => ?_)
    refine lv_iconst (v := (0 : Int32)) hx hb dX7_isKnapsack_40 (by decide) ?_
    refine lv_istore_n (lv' := [(2, .int (0 : Int32)), (1, .int t0), (0, .ref (a 61))]) hx hb dX7_isKnapsack_41 rfl hl (by decide) rfl (fun ls hl => ?_)
    obtain ⟨n42, hm⟩ := hm
    exact L42 n42 t0 (0 : Int32) S _ _ _ hm hP hS (lv_sub hl [2, 1, 0] rfl)
  have b38 : ∀ (S : ZS) (H : Heap) (locs : List Loc) (ls : Array Slot), X7_isKnapsack_b38 S Q → va_P D vwCl (zWS k a S) H → va_S (zA a s.heap.size) s.heap H locs → lv_has ls 3 [(0, .ref (a 61))] → zWi p l e (headSpec wsX7_isKnapsack rm_X7_isKnapsack).room s m ([.ref (a 61)] : List Value) below meth c D k a Q H locs (F0 m 38 ls []) := by
    intro S H locs ls hm hP hS hl
    unfold X7_isKnapsack_b38 at hm
    refine lv_iconst (v := (0 : Int32)) hx hb dX7_isKnapsack_38 (by decide) ?_
    exact b39 (0 : Int32) S _ _ _ hm hP hS (lv_sub hl [0] rfl)
  unfold X7_isKnapsack at hm
  refine lv_aload_n hx hb dX7_isKnapsack_0 rfl (lv_at hl 0 rfl) ?_
  refine zg_7_rows hx hb hts i7 hown hK hP (hts _ (List.mem_of_getElem? (i := 1) rfl)) dX7_isKnapsack_1 ?_
  refine lv_iconst (v := (1 : Int32)) hx hb dX7_isKnapsack_4 (by decide) ?_
  refine lv_icmp_ne (tgt := 38) hx hb dX7_isKnapsack_5 (by decide) (fun c_5 => ?_) (fun c_5 => ?_)
  · have hm := hm.2 c_5
    exact b38  S _ _ _ hm hP hS (lv_sub hl [0] rfl)
  · have hm := hm.1 c_5
    refine lv_aload_n hx hb dX7_isKnapsack_8 rfl (lv_at hl 0 rfl) ?_
    refine zg_7_kinds hx hb hts i7 hown hK hP (hts _ (List.mem_of_getElem? (i := 2) rfl)) dX7_isKnapsack_9 ?_
    refine lv_iconst (v := (0 : Int32)) hx hb dX7_isKnapsack_12 (by decide) ?_
    obtain ⟨h_13, hm⟩ := hm
    refine z_iald hx hb hK hP zI_65 h_13 dX7_isKnapsack_13 ?_
    refine lv_if_ne (tgt := 38) hx hb dX7_isKnapsack_14 (by decide) (fun c_14 => ?_) (fun c_14 => ?_)
    · have hm := hm.2 c_14
      exact b38  S _ _ _ hm hP hS (lv_sub hl [0] rfl)
    · have hm := hm.1 c_14
      refine lv_aload_n hx hb dX7_isKnapsack_17 rfl (lv_at hl 0 rfl) ?_
      refine zg_7_rights hx hb hts i7 hown hK hP (hts _ (List.mem_of_getElem? (i := 3) rfl)) dX7_isKnapsack_18 ?_
      refine lv_iconst (v := (0 : Int32)) hx hb dX7_isKnapsack_21 (by decide) ?_
      obtain ⟨h_22, hm⟩ := hm
      refine z_iald hx hb hK hP zI_66 h_22 dX7_isKnapsack_22 ?_
      refine lv_i2l hx hb dX7_isKnapsack_23 rfl ?_
      refine lv_lconst (v := (0 : Int64)) hx hb dX7_isKnapsack_24 (by decide) ?_
      refine lv_ldc2 (v := (300 : Int64)) hx hb hown (hts _ (List.mem_of_getElem? (i := 4) rfl)) dX7_isKnapsack_25 ?_
      refine z_cSi (As := [.long (Int32.toInt64 (S.1 66 ((0 : Int32)).toNatClampNeg)), .long (0 : Int64), .long (300 : Int64)]) (rest := []) hF hK hP hS (c_X7_within l D k a hj (Int32.toInt64 (S.1 66 ((0 : Int32)).toNatClampNeg)) (0 : Int64) (300 : Int64) S _ hm _) (va_cwS 3 hts gX7_isKnapsack_X7_within rfl rfl rfl (by decide +kernel) ⟨Nat.le_of_ble_eq_true rfl, Nat.le_of_ble_eq_true rfl⟩) rfl hl.1 rfl (Nat.le_of_ble_eq_true rfl) dX7_isKnapsack_28 ⟨Nat.zero_le _, Nat.zero_le _⟩ (fun r_28 S_28 H locs hm hP hS => ?_)
      refine lv_if_eq (tgt := 38) hx hb dX7_isKnapsack_31 (by decide) (fun c_31 => ?_) (fun c_31 => ?_)
      · have hm := hm.1 c_31
        exact b38  S_28 _ _ _ hm hP hS (lv_sub hl [0] rfl)
      · have hm := hm.2 c_31
        refine lv_iconst (v := (1 : Int32)) hx hb dX7_isKnapsack_34 (by decide) ?_
        refine lv_goto (tgt := 39) hx hb dX7_isKnapsack_35 (by decide) ?_
        exact b39 (1 : Int32) S_28 _ _ _ hm hP hS (lv_sub hl [0] rfl)

