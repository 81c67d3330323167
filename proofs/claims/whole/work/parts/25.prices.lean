abbrev rm_X2_limit : Room := { frames := 1, cells := 0, slots := 0, locals := 21 }
def X2_limit (y1 : Int32) (y2 : Int32) (y3 : Int32) (S : ZS) (Q : ZS → Prop) : Prop :=
  vp_in y1 9 ∧ vp_in y1 9 ∧ vp_in y2 9 ∧ vp_in y2 9 ∧ ∀ S_19 : ZS, S_19 = zu S (40 + (y1).toNatClampNeg) (y2).toNatClampNeg (if y3 < (S.1 (40 + (y1).toNatClampNeg) (y2).toNatClampNeg) then y3 else (S.1 (40 + (y1).toNatClampNeg) (y2).toNatClampNeg)) → Q S_19
set_option maxHeartbeats 4000000 in
set_option maxRecDepth 100000 in
theorem c_X2_limit (l : Launch) (D : va_G) (k : Nat → ClassId) (a : Nat → Nat) (hj : zDj a) (y1 : Int32) (y2 : Int32) (y3 : Int32) (S : ZS) (Q : ZS → Prop) (hm : X2_limit y1 y2 y3 S Q) (sz : Nat) : Met l yX2_limit wsX2_limit rm_X2_limit (zPc D k a [.ref (a 4), .int y1, .int y2, .int y3] S sz) (va_Qv Q (zB D k a) (zA a sz)) 0 0 (zA a sz) := by
  refine Met.ofW (cc := cX2_limit) (maxL := 4) (ret := none) (by decide) rfl ?_
  intro p e s m args below meth c s₁ B hml hv
  obtain ⟨rfl, hsz, hP, hK⟩ := hv
  have hx := B.exec
  have hb := B.bytes
  have hr := B.returns
  have hts := atoms_spec (ws := wsX2_limit) B.pre
  have hown : s.vm.findClass RX2 = some m.cls := findClass_of_methodNamed B.named
  have hlocks := B.notSynchronized
  subst hsz
  have hS : va_S (zA a s.heap.size) s.heap s.heap [] := va_S.rf
  have hF : CallFix p m c cX2_limit 4 s _ wsX2_limit RX2 := ⟨hx, hb, hml, hown, hts⟩
  have i2 : ∀ w ∈ wsX20, w ∈ wsX2_limit := fun _ h => (List.mem_cons_of_mem _ (List.mem_append_right _ h))
  have hl := lv_entry ([.ref (a 4), .int y1, .int y2, .int y3]) (n := 4) (Nat.le_of_ble_eq_true rfl)
  rw [lg_entry_eq]
  generalize (lg_sl ([.ref (a 4), .int y1, .int y2, .int y3]) ++ List.replicate (4 - (lg_sl ([.ref (a 4), .int y1, .int y2, .int y3])).length) Slot.unset).toArray = ls at hl ⊢
  have hl : lv_has ls 4 [(0, .ref (a 4)), (1, .int y1), (2, .int y2), (3, .int y3)] := hl
  unfold X2_limit at hm
  refine lv_aload_n hx hb dX2_limit_0 rfl (lv_at hl 0 rfl) ?_
  refine zg_2_most hx hb hts i2 hown hK hP (hts _ (List.mem_of_getElem? (i := 1) rfl)) dX2_limit_1 ?_
  refine lv_iload_n hx hb dX2_limit_4 rfl (lv_at hl 1 rfl) ?_
  obtain ⟨h_5, hm⟩ := hm
  refine z_aald hx hb hK hP zQ_39 h_5 dX2_limit_5 ?_
  refine lv_iload_n hx hb dX2_limit_6 rfl (lv_at hl 2 rfl) ?_
  refine lv_aload_n hx hb dX2_limit_7 rfl (lv_at hl 0 rfl) ?_
  refine zg_2_most hx hb hts i2 hown hK hP (hts _ (List.mem_of_getElem? (i := 1) rfl)) dX2_limit_8 ?_
  refine lv_iload_n hx hb dX2_limit_11 rfl (lv_at hl 1 rfl) ?_
  obtain ⟨h_12, hm⟩ := hm
  refine z_aald hx hb hK hP zQ_39 h_12 dX2_limit_12 ?_
  refine lv_iload_n hx hb dX2_limit_13 rfl (lv_at hl 2 rfl) ?_
  obtain ⟨h_14, hm⟩ := hm
  refine z_iald hx hb hK hP (zRi_39 h_12) h_14 dX2_limit_14 ?_
  refine lv_iload_n hx hb dX2_limit_15 rfl (lv_at hl 3 rfl) ?_
  refine va_mmin hx hb (hml.trans hl.1.symm) hown (hts _ (List.mem_of_getElem? (i := 2) rfl)) (hts _ (List.mem_of_getElem? (i := 3) rfl)) (hts _ (List.mem_of_getElem? (i := 4) rfl)) (hts _ (List.mem_of_getElem? (i := 5) rfl)) (Nat.le_of_ble_eq_true rfl) (Nat.le_of_ble_eq_true rfl) (Nat.zero_le _) (Nat.zero_le _) dX2_limit_16 ?_
  obtain ⟨h_19, hm⟩ := hm
  refine z_iast hx hb hj hK hP hS (zRi_39 h_5) h_19 dX2_limit_19 (fun H locs hP hS => ?_)
  obtain ⟨S_19, eS_19⟩ : ∃ z : ZS, z = zu S (40 + (y1).toNatClampNeg) (y2).toNatClampNeg (if y3 < (S.1 (40 + (y1).toNatClampNeg) (y2).toNatClampNeg) then y3 else (S.1 (40 + (y1).toNatClampNeg) (y2).toNatClampNeg)) := ⟨_, rfl⟩
  rw [← eS_19] at hP
  have hm := hm S_19 eS_19
  exact z_retv hx hb hr hlocks hP hS hm dX2_limit_20

abbrev rm_X2_setLimits : Room := { frames := 2, cells := 0, slots := 0, locals := 44 }
def X2_setLimits_b122 (S : ZS) (Q : ZS → Prop) : Prop :=
  Q S
def X2_setLimits_b116 (x2 : Int32) (S : ZS) (Q : ZS → Prop) (k36 : Int32 × ZS → Prop) : Prop :=
  ∀ x2_116 : Int32, x2_116 = x2 + (1 : Int32) → k36 (x2_116, S)
def X2_setLimits_b87 (x2 : Int32) (x3 : Int32) (x4 : Int32) (S : ZS) (Q : ZS → Prop) (k36 : Int32 × ZS → Prop) : Prop :=
  vp_in x2 18 ∧ vp_in x2 18 ∧ ((S.1 31 (x2).toNatClampNeg) ≤ (S.1 28 (x2).toNatClampNeg) → X2_setLimits_b116 x2 S Q k36) ∧ (¬ (S.1 31 (x2).toNatClampNeg) ≤ (S.1 28 (x2).toNatClampNeg) → vp_in x2 18 ∧ X2_limit x3 x4 (-(S.1 30 (x2).toNatClampNeg)) S (fun S_113 => X2_setLimits_b116 x2 S_113 Q k36))
def X2_setLimits_B36 (x2 : Int32) (S : ZS) (Q : ZS → Prop) (k36 : Int32 × ZS → Prop) : Prop :=
  ((S.1 3 0) ≤ x2 → X2_setLimits_b122 S Q) ∧ (¬ (S.1 3 0) ≤ x2 → vp_in x2 18 ∧ ∀ x3_50 : Int32, x3_50 = (S.1 26 (x2).toNatClampNeg) → vp_in x2 18 ∧ ∀ x4_57 : Int32, x4_57 = (S.1 27 (x2).toNatClampNeg) → vp_in x2 18 ∧ vp_in x2 18 ∧ ((S.1 29 (x2).toNatClampNeg) ≤ (S.1 31 (x2).toNatClampNeg) → X2_setLimits_b87 x2 x3_50 x4_57 S Q k36) ∧ (¬ (S.1 29 (x2).toNatClampNeg) ≤ (S.1 31 (x2).toNatClampNeg) → vp_in x2 18 ∧ X2_limit x4_57 x3_50 (S.1 30 (x2).toNatClampNeg) S (fun S_84 => X2_setLimits_b87 x2 x3_50 x4_57 S_84 Q k36)))
def X2_setLimits_L36 (Q : ZS → Prop) : (Int32 × ZS) → ((Int32 × ZS) → Prop) → Prop := fun st k36 => X2_setLimits_B36 st.1 st.2 Q k36
def X2_setLimits_b34 (S : ZS) (Q : ZS → Prop) : Prop :=
  zl (X2_setLimits_L36 Q) ((0 : Int32), S)
def X2_setLimits_B2 (x2 : Int32) (S : ZS) (Q : ZS → Prop) (k2 : Int32 × ZS → Prop) : Prop :=
  ((9 : Int32) ≤ x2 → X2_setLimits_b34 S Q) ∧ (¬ (9 : Int32) ≤ x2 → vp_in x2 9 ∧ J7_fill_53178 (40 + (x2).toNatClampNeg) 9 (1000000000 : Int32) S (fun S_16 => vp_in x2 9 ∧ vp_in x2 9 ∧ ∀ S_27 : ZS, S_27 = zu S_16 (40 + (x2).toNatClampNeg) (x2).toNatClampNeg (0 : Int32) → ∀ x2_28 : Int32, x2_28 = x2 + (1 : Int32) → k2 (x2_28, S_27)))
def X2_setLimits_L2 (Q : ZS → Prop) : (Int32 × ZS) → ((Int32 × ZS) → Prop) → Prop := fun st k2 => X2_setLimits_B2 st.1 st.2 Q k2
def X2_setLimits (S : ZS) (Q : ZS → Prop) : Prop :=
  zl (X2_setLimits_L2 Q) ((0 : Int32), S)
set_option maxHeartbeats 4000000 in
set_option maxRecDepth 100000 in
theorem c_X2_setLimits (l : Launch) (D : va_G) (k : Nat → ClassId) (a : Nat → Nat) (hj : zDj a) (S : ZS) (Q : ZS → Prop) (hm : X2_setLimits S Q) (sz : Nat) : Met l yX2_setLimits wsX2_setLimits rm_X2_setLimits (zPc D k a [.ref (a 4), .ref (a 3)] S sz) (va_Qv Q (zB D k a) (zA a sz)) 0 0 (zA a sz) := by
  refine Met.ofW (cc := cX2_setLimits) (maxL := 5) (ret := none) (by decide) rfl ?_
  intro p e s m args below meth c s₁ B hml hv
  obtain ⟨rfl, hsz, hP, hK⟩ := hv
  have hx := B.exec
  have hb := B.bytes
  have hr := B.returns
  have hts := atoms_spec (ws := wsX2_setLimits) B.pre
  have hown : s.vm.findClass RX2 = some m.cls := findClass_of_methodNamed B.named
  have hlocks := B.notSynchronized
  subst hsz
  have hS : va_S (zA a s.heap.size) s.heap s.heap [] := va_S.rf
  have hF : CallFix p m c cX2_setLimits 5 s _ wsX2_setLimits RX2 := ⟨hx, hb, hml, hown, hts⟩
  have i1 : ∀ w ∈ wsX10, w ∈ wsX2_setLimits := fun _ h => (List.mem_cons_of_mem _ (List.mem_append_right _ h))
  have i2 : ∀ w ∈ wsX20, w ∈ wsX2_setLimits := fun _ h => (List.mem_cons_of_mem _ (List.mem_append_left _ (List.mem_append_right _ h)))
  have hl := lv_entry ([.ref (a 4), .ref (a 3)]) (n := 5) (Nat.le_of_ble_eq_true rfl)
  rw [lg_entry_eq]
  generalize (lg_sl ([.ref (a 4), .ref (a 3)]) ++ List.replicate (5 - (lg_sl ([.ref (a 4), .ref (a 3)])).length) Slot.unset).toArray = ls at hl ⊢
  have hl : lv_has ls 5 [(0, .ref (a 4)), (1, .ref (a 3))] := hl
  have b34 : ∀ (S : ZS) (H : Heap) (locs : List Loc) (ls : Array Slot), X2_setLimits_b34 S Q → va_P D vwCl (zWS k a S) H → va_S (zA a s.heap.size) s.heap H locs → lv_has ls 5 [(0, .ref (a 4)), (1, .ref (a 3))] → zWv p l e (headSpec wsX2_setLimits rm_X2_setLimits).room s m ([.ref (a 4), .ref (a 3)] : List Value) below meth c D k a Q H locs (F0 m 34 ls []) := by
    intro S H locs ls hm hP hS hl
    unfold X2_setLimits_b34 at hm
    have b122 : ∀ (S : ZS) (H : Heap) (locs : List Loc) (ls : Array Slot), X2_setLimits_b122 S Q → va_P D vwCl (zWS k a S) H → va_S (zA a s.heap.size) s.heap H locs → lv_has ls 5 [(0, .ref (a 4)), (1, .ref (a 3))] → zWv p l e (headSpec wsX2_setLimits rm_X2_setLimits).room s m ([.ref (a 4), .ref (a 3)] : List Value) below meth c D k a Q H locs (F0 m 122 ls []) := by
      intro S H locs ls hm hP hS hl
      unfold X2_setLimits_b122 at hm
      exact z_retv hx hb hr hlocks hP hS hm dX2_setLimits_122
    have L36 : ∀ (n : Nat) (x2 : Int32) (S : ZS) (H : Heap) (locs : List Loc) (ls : Array Slot), zn (X2_setLimits_L36 Q) n (x2, S) → va_P D vwCl (zWS k a S) H → va_S (zA a s.heap.size) s.heap H locs → lv_has ls 5 [(0, .ref (a 4)), (1, .ref (a 3)), (2, .int x2)] → zWv p l e (headSpec wsX2_setLimits rm_X2_setLimits).room s m ([.ref (a 4), .ref (a 3)] : List Value) below meth c D k a Q H locs (F0 m 36 ls []) := by
      intro n
      induction n with
      | zero =>
        intro x2 S H locs ls hm
        exact hm.elim
      | succ n ih36 =>
        intro x2 S H locs ls hm hP hS hl
        have hm : X2_setLimits_B36 x2 S Q (zn (X2_setLimits_L36 Q) n) := hm
        generalize zn (X2_setLimits_L36 Q) n = k36 at hm ih36
        unfold X2_setLimits_B36 at hm
        have b87 : ∀ (x2 : Int32) (x3 : Int32) (x4 : Int32) (S : ZS) (H : Heap) (locs : List Loc) (ls : Array Slot), X2_setLimits_b87 x2 x3 x4 S Q k36 → va_P D vwCl (zWS k a S) H → va_S (zA a s.heap.size) s.heap H locs → lv_has ls 5 [(0, .ref (a 4)), (1, .ref (a 3)), (2, .int x2), (3, .int x3), (4, .int x4)] → zWv p l e (headSpec wsX2_setLimits rm_X2_setLimits).room s m ([.ref (a 4), .ref (a 3)] : List Value) below meth c D k a Q H locs (F0 m 87 ls []) := by
          intro x2 x3 x4 S H locs ls hm hP hS hl
          unfold X2_setLimits_b87 at hm
          have b116 : ∀ (x2 : Int32) (S : ZS) (H : Heap) (locs : List Loc) (ls : Array Slot), X2_setLimits_b116 x2 S Q k36 → va_P D vwCl (zWS k a S) H → va_S (zA a s.heap.size) s.heap H locs → lv_has ls 5 [(0, .ref (a 4)), (1, .ref (a 3)), (2, .int x2)] → zWv p l e (headSpec wsX2_setLimits rm_X2_setLimits).room s m ([.ref (a 4), .ref (a 3)] : List Value) below meth c D k a Q H locs (F0 m 116 ls []) := by
            intro x2 S H locs ls hm hP hS hl
            unfold X2_setLimits_b116 at hm
            obtain ⟨x2_116, ex2_116⟩ : ∃ y : Int32, y = x2 + (1 : Int32) := ⟨_, rfl⟩
            have hm := hm x2_116 ex2_116
            refine lv_iinc (v := x2_116) (lv' := [(2, .int x2_116), (0, .ref (a 4)), (1, .ref (a 3))]) hx hb dX2_setLimits_116 hl (k := 2) rfl (by rw [ex2_116]; rfl) (by decide) rfl (fun ls hl => ?_)
            refine lv_goto (tgt := 36) hx hb dX2_setLimits_119 (by decide) ?_
            exact ih36 x2_116 S _ _ _ hm hP hS (lv_sub hl [1, 2, 0] rfl)
          refine lv_aload_n hx hb dX2_setLimits_87 rfl (lv_at hl 1 rfl) ?_
          refine zg_1_amount hx hb hts i1 hown hK hP (hts _ (List.mem_of_getElem? (i := 6) rfl)) dX2_setLimits_88 ?_
          refine lv_iload_n hx hb dX2_setLimits_91 rfl (lv_at hl 2 rfl) ?_
          obtain ⟨h_92, hm⟩ := hm
          refine z_iald hx hb hK hP zI_31 h_92 dX2_setLimits_92 ?_
          refine lv_aload_n hx hb dX2_setLimits_93 rfl (lv_at hl 1 rfl) ?_
          refine zg_1_low hx hb hts i1 hown hK hP (hts _ (List.mem_of_getElem? (i := 9) rfl)) dX2_setLimits_94 ?_
          refine lv_iload_n hx hb dX2_setLimits_97 rfl (lv_at hl 2 rfl) ?_
          obtain ⟨h_98, hm⟩ := hm
          refine z_iald hx hb hK hP zI_28 h_98 dX2_setLimits_98 ?_
          refine lv_icmp_le (tgt := 116) hx hb dX2_setLimits_99 (by decide) (fun c_99 => ?_) (fun c_99 => ?_)
          · have hm := hm.1 c_99
            exact b116 x2 S _ _ _ hm hP hS (lv_sub hl [0, 1, 2] rfl)
          · have hm := hm.2 c_99
            refine lv_aload_n hx hb dX2_setLimits_102 rfl (lv_at hl 0 rfl) ?_
            refine lv_iload_n hx hb dX2_setLimits_103 rfl (lv_at hl 3 rfl) ?_
            refine lv_iload hx hb dX2_setLimits_104 (lv_at hl 4 rfl) ?_
            refine lv_aload_n hx hb dX2_setLimits_106 rfl (lv_at hl 1 rfl) ?_
            refine zg_1_cost hx hb hts i1 hown hK hP (hts _ (List.mem_of_getElem? (i := 8) rfl)) dX2_setLimits_107 ?_
            refine lv_iload_n hx hb dX2_setLimits_110 rfl (lv_at hl 2 rfl) ?_
            obtain ⟨h_111, hm⟩ := hm
            refine z_iald hx hb hK hP zI_30 h_111 dX2_setLimits_111 ?_
            refine lv_ineg hx hb dX2_setLimits_112 ?_
            refine z_cVv (As := [.int x3, .int x4, .int (-(S.1 30 (x2).toNatClampNeg))]) (rest := []) hF hK hP hS zO_4 rfl rfl (c_X2_limit l D k a hj x3 x4 (-(S.1 30 (x2).toNatClampNeg)) S _ hm _) (cwV 3 hts gX2_setLimits_X2_limit rfl rfl rfl (by decide +kernel) ⟨Nat.le_of_ble_eq_true rfl, Nat.le_of_ble_eq_true rfl⟩) rfl hl.1 rfl (Nat.le_of_ble_eq_true rfl) dX2_setLimits_113 ⟨Nat.zero_le _, Nat.zero_le _⟩ (fun S_113 H locs hm hP hS => ?_)
            exact b116 x2 S_113 _ _ _ hm hP hS (lv_sub hl [0, 1, 2] rfl)
        refine lv_iload_n hx hb dX2_setLimits_36 rfl (lv_at hl 2 rfl) ?_
        refine lv_aload_n hx hb dX2_setLimits_37 rfl (lv_at hl 1 rfl) ?_
        refine zg_1_arcs hx hb hts i1 hown hK hP (hts _ (List.mem_of_getElem? (i := 3) rfl)) dX2_setLimits_38 ?_
        refine lv_icmp_ge (tgt := 122) hx hb dX2_setLimits_41 (by decide) (fun c_41 => ?_) (fun c_41 => ?_)
        · have hm := hm.1 c_41
          exact b122  S _ _ _ hm hP hS (lv_sub hl [0, 1] rfl)
        · have hm := hm.2 c_41
          refine lv_aload_n hx hb dX2_setLimits_44 rfl (lv_at hl 1 rfl) ?_
          refine zg_1_upper hx hb hts i1 hown hK hP (hts _ (List.mem_of_getElem? (i := 4) rfl)) dX2_setLimits_45 ?_
          refine lv_iload_n hx hb dX2_setLimits_48 rfl (lv_at hl 2 rfl) ?_
          obtain ⟨h_49, hm⟩ := hm
          refine z_iald hx hb hK hP zI_26 h_49 dX2_setLimits_49 ?_
          refine lv_topi (fun x3_50 ex3_50 => ?_)
          have hm := hm x3_50 ex3_50
          refine lv_istore_n (lv' := [(3, .int x3_50), (0, .ref (a 4)), (1, .ref (a 3)), (2, .int x2)]) hx hb dX2_setLimits_50 rfl hl (by decide) rfl (fun ls hl => ?_)
          refine lv_aload_n hx hb dX2_setLimits_51 rfl (lv_at hl 2 rfl) ?_
          refine zg_1_lower hx hb hts i1 hown hK hP (hts _ (List.mem_of_getElem? (i := 5) rfl)) dX2_setLimits_52 ?_
          refine lv_iload_n hx hb dX2_setLimits_55 rfl (lv_at hl 3 rfl) ?_
          obtain ⟨h_56, hm⟩ := hm
          refine z_iald hx hb hK hP zI_27 h_56 dX2_setLimits_56 ?_
          refine lv_topi (fun x4_57 ex4_57 => ?_)
          have hm := hm x4_57 ex4_57
          refine lv_istore (lv' := [(4, .int x4_57), (3, .int x3_50), (0, .ref (a 4)), (1, .ref (a 3)), (2, .int x2)]) hx hb dX2_setLimits_57 hl (by decide) rfl (fun ls hl => ?_)
          refine lv_aload_n hx hb dX2_setLimits_59 rfl (lv_at hl 3 rfl) ?_
          refine zg_1_amount hx hb hts i1 hown hK hP (hts _ (List.mem_of_getElem? (i := 6) rfl)) dX2_setLimits_60 ?_
          refine lv_iload_n hx hb dX2_setLimits_63 rfl (lv_at hl 4 rfl) ?_
          obtain ⟨h_64, hm⟩ := hm
          refine z_iald hx hb hK hP zI_31 h_64 dX2_setLimits_64 ?_
          refine lv_aload_n hx hb dX2_setLimits_65 rfl (lv_at hl 3 rfl) ?_
          refine zg_1_high hx hb hts i1 hown hK hP (hts _ (List.mem_of_getElem? (i := 7) rfl)) dX2_setLimits_66 ?_
          refine lv_iload_n hx hb dX2_setLimits_69 rfl (lv_at hl 4 rfl) ?_
          obtain ⟨h_70, hm⟩ := hm
          refine z_iald hx hb hK hP zI_29 h_70 dX2_setLimits_70 ?_
          refine lv_icmp_ge (tgt := 87) hx hb dX2_setLimits_71 (by decide) (fun c_71 => ?_) (fun c_71 => ?_)
          · have hm := hm.1 c_71
            exact b87 x2 x3_50 x4_57 S _ _ _ hm hP hS (lv_sub hl [2, 3, 4, 1, 0] rfl)
          · have hm := hm.2 c_71
            refine lv_aload_n hx hb dX2_setLimits_74 rfl (lv_at hl 2 rfl) ?_
            refine lv_iload hx hb dX2_setLimits_75 (lv_at hl 0 rfl) ?_
            refine lv_iload_n hx hb dX2_setLimits_77 rfl (lv_at hl 1 rfl) ?_
            refine lv_aload_n hx hb dX2_setLimits_78 rfl (lv_at hl 3 rfl) ?_
            refine zg_1_cost hx hb hts i1 hown hK hP (hts _ (List.mem_of_getElem? (i := 8) rfl)) dX2_setLimits_79 ?_
            refine lv_iload_n hx hb dX2_setLimits_82 rfl (lv_at hl 4 rfl) ?_
            obtain ⟨h_83, hm⟩ := hm
            refine z_iald hx hb hK hP zI_30 h_83 dX2_setLimits_83 ?_
            refine z_cVv (As := [.int x4_57, .int x3_50, .int (S.1 30 (x2).toNatClampNeg)]) (rest := []) hF hK hP hS zO_4 rfl rfl (c_X2_limit l D k a hj x4_57 x3_50 (S.1 30 (x2).toNatClampNeg) S _ hm _) (cwV 3 hts gX2_setLimits_X2_limit rfl rfl rfl (by decide +kernel) ⟨Nat.le_of_ble_eq_true rfl, Nat.le_of_ble_eq_true rfl⟩) rfl hl.1 rfl (Nat.le_of_ble_eq_true rfl) dX2_setLimits_84 ⟨Nat.zero_le _, Nat.zero_le _⟩ (fun S_84 H locs hm hP hS => ?_)
            exact b87 x2 x3_50 x4_57 S_84 _ _ _ hm hP hS (lv_sub hl [2, 3, 4, 1, 0] rfl)
    refine lv_iconst (v := (0 : Int32)) hx hb dX2_setLimits_34 (by decide) ?_
    refine lv_istore_n (lv' := [(2, .int (0 : Int32)), (0, .ref (a 4)), (1, .ref (a 3))]) hx hb dX2_setLimits_35 rfl hl (by decide) rfl (fun ls hl => ?_)
    obtain ⟨n36, hm⟩ := hm
    exact L36 n36 (0 : Int32) S _ _ _ hm hP hS (lv_sub hl [1, 2, 0] rfl)
  have L2 : ∀ (n : Nat) (x2 : Int32) (S : ZS) (H : Heap) (locs : List Loc) (ls : Array Slot), zn (X2_setLimits_L2 Q) n (x2, S) → va_P D vwCl (zWS k a S) H → va_S (zA a s.heap.size) s.heap H locs → lv_has ls 5 [(0, .ref (a 4)), (1, .ref (a 3)), (2, .int x2)] → zWv p l e (headSpec wsX2_setLimits rm_X2_setLimits).room s m ([.ref (a 4), .ref (a 3)] : List Value) below meth c D k a Q H locs (F0 m 2 ls []) := by
    intro n
    induction n with
    | zero =>
      intro x2 S H locs ls hm
      exact hm.elim
    | succ n ih2 =>
      intro x2 S H locs ls hm hP hS hl
      have hm : X2_setLimits_B2 x2 S Q (zn (X2_setLimits_L2 Q) n) := hm
      generalize zn (X2_setLimits_L2 Q) n = k2 at hm ih2
      unfold X2_setLimits_B2 at hm
      refine lv_iload_n hx hb dX2_setLimits_2 rfl (lv_at hl 2 rfl) ?_
      refine lv_bipush (v := (9 : Int32)) hx hb dX2_setLimits_3 (by decide) ?_
      refine lv_icmp_ge (tgt := 34) hx hb dX2_setLimits_5 (by decide) (fun c_5 => ?_) (fun c_5 => ?_)
      · have hm := hm.1 c_5
        exact b34  S _ _ _ hm hP hS (lv_sub hl [0, 1] rfl)
      · have hm := hm.2 c_5
        refine lv_aload_n hx hb dX2_setLimits_8 rfl (lv_at hl 0 rfl) ?_
        refine zg_2_most hx hb hts i2 hown hK hP (hts _ (List.mem_of_getElem? (i := 1) rfl)) dX2_setLimits_9 ?_
        refine lv_iload_n hx hb dX2_setLimits_12 rfl (lv_at hl 2 rfl) ?_
        obtain ⟨h_13, hm⟩ := hm
        refine z_aald hx hb hK hP zQ_39 h_13 dX2_setLimits_13 ?_
        refine lv_ldc (v := (1000000000 : Int32)) hx hb hown (hts _ (List.mem_of_getElem? (i := 2) rfl)) dX2_setLimits_14 ?_
        refine z_cSv (As := [.ref (a (40 + (x2).toNatClampNeg)), .int (1000000000 : Int32)]) (rest := []) hF hK hP hS (c_J7_fill_53178 l D k a hj (40 + (x2).toNatClampNeg) 9 (zRi_39 h_13) (1000000000 : Int32) S _ hm _) (va_cwS 2 hts gX2_setLimits_J7_fill_53178 rfl rfl rfl (by decide +kernel) ⟨Nat.le_of_ble_eq_true rfl, Nat.le_of_ble_eq_true rfl⟩) rfl hl.1 rfl (Nat.le_of_ble_eq_true rfl) dX2_setLimits_16 ⟨Nat.zero_le _, Nat.zero_le _⟩ (fun S_16 H locs hm hP hS => ?_)
        refine lv_aload_n hx hb dX2_setLimits_19 rfl (lv_at hl 0 rfl) ?_
        refine zg_2_most hx hb hts i2 hown hK hP (hts _ (List.mem_of_getElem? (i := 1) rfl)) dX2_setLimits_20 ?_
        refine lv_iload_n hx hb dX2_setLimits_23 rfl (lv_at hl 2 rfl) ?_
        obtain ⟨h_24, hm⟩ := hm
        refine z_aald hx hb hK hP zQ_39 h_24 dX2_setLimits_24 ?_
        refine lv_iload_n hx hb dX2_setLimits_25 rfl (lv_at hl 2 rfl) ?_
        refine lv_iconst (v := (0 : Int32)) hx hb dX2_setLimits_26 (by decide) ?_
        obtain ⟨h_27, hm⟩ := hm
        refine z_iast hx hb hj hK hP hS (zRi_39 h_24) h_27 dX2_setLimits_27 (fun H locs hP hS => ?_)
        obtain ⟨S_27, eS_27⟩ : ∃ z : ZS, z = zu S_16 (40 + (x2).toNatClampNeg) (x2).toNatClampNeg (0 : Int32) := ⟨_, rfl⟩
        rw [← eS_27] at hP
        have hm := hm S_27 eS_27
        obtain ⟨x2_28, ex2_28⟩ : ∃ y : Int32, y = x2 + (1 : Int32) := ⟨_, rfl⟩
        have hm := hm x2_28 ex2_28
        refine lv_iinc (v := x2_28) (lv' := [(2, .int x2_28), (0, .ref (a 4)), (1, .ref (a 3))]) hx hb dX2_setLimits_28 hl (k := 2) rfl (by rw [ex2_28]; rfl) (by decide) rfl (fun ls hl => ?_)
        refine lv_goto (tgt := 2) hx hb dX2_setLimits_31 (by decide) ?_
        exact ih2 x2_28 S_27 _ _ _ hm hP hS (lv_sub hl [1, 2, 0] rfl)
  unfold X2_setLimits at hm
  refine lv_iconst (v := (0 : Int32)) hx hb dX2_setLimits_0 (by decide) ?_
  refine lv_istore_n (lv' := [(2, .int (0 : Int32)), (0, .ref (a 4)), (1, .ref (a 3))]) hx hb dX2_setLimits_1 rfl hl (by decide) rfl (fun ls hl => ?_)
  obtain ⟨n2, hm⟩ := hm
  exact L2 n2 (0 : Int32) S _ _ _ hm hP hS (lv_sub hl [1, 2, 0] rfl)

abbrev rm_X2_tightenThrough : Room := { frames := 2, cells := 0, slots := 0, locals := 44 }
def X2_tightenThrough_b50 (S : ZS) (Q : ZS → Prop) : Prop :=
  Q S
def X2_tightenThrough_b44 (x1 : Int32) (x2 : Int32) (x3 : Int32) (S : ZS) (Q : ZS → Prop) (k2 : Int32 × ZS → Prop) : Prop :=
  ∀ x3_44 : Int32, x3_44 = x3 + (1 : Int32) → k2 (x3_44, S)
def X2_tightenThrough_B2 (x1 : Int32) (x2 : Int32) (x3 : Int32) (S : ZS) (Q : ZS → Prop) (k2 : Int32 × ZS → Prop) : Prop :=
  ((9 : Int32) ≤ x3 → X2_tightenThrough_b50 S Q) ∧ (¬ (9 : Int32) ≤ x3 → vp_in x2 9 ∧ vp_in x3 9 ∧ ((1000000000 : Int32) ≤ (S.1 (40 + (x2).toNatClampNeg) (x3).toNatClampNeg) → X2_tightenThrough_b44 x1 x2 x3 S Q k2) ∧ (¬ (1000000000 : Int32) ≤ (S.1 (40 + (x2).toNatClampNeg) (x3).toNatClampNeg) → vp_in x1 9 ∧ vp_in x2 9 ∧ vp_in x2 9 ∧ vp_in x3 9 ∧ X2_limit x1 x3 ((S.1 (40 + (x1).toNatClampNeg) (x2).toNatClampNeg) + (S.1 (40 + (x2).toNatClampNeg) (x3).toNatClampNeg)) S (fun S_41 => X2_tightenThrough_b44 x1 x2 x3 S_41 Q k2)))
def X2_tightenThrough_L2 (x1 : Int32) (x2 : Int32) (Q : ZS → Prop) : (Int32 × ZS) → ((Int32 × ZS) → Prop) → Prop := fun st k2 => X2_tightenThrough_B2 x1 x2 st.1 st.2 Q k2
def X2_tightenThrough (y1 : Int32) (y2 : Int32) (S : ZS) (Q : ZS → Prop) : Prop :=
  zl (X2_tightenThrough_L2 y1 y2 Q) ((0 : Int32), S)
set_option maxHeartbeats 4000000 in
set_option maxRecDepth 100000 in
theorem c_X2_tightenThrough (l : Launch) (D : va_G) (k : Nat → ClassId) (a : Nat → Nat) (hj : zDj a) (y1 : Int32) (y2 : Int32) (S : ZS) (Q : ZS → Prop) (hm : X2_tightenThrough y1 y2 S Q) (sz : Nat) : Met l yX2_tightenThrough wsX2_tightenThrough rm_X2_tightenThrough (zPc D k a [.ref (a 4), .int y1, .int y2] S sz) (va_Qv Q (zB D k a) (zA a sz)) 0 0 (zA a sz) := by
  refine Met.ofW (cc := cX2_tightenThrough) (maxL := 4) (ret := none) (by decide) rfl ?_
  intro p e s m args below meth c s₁ B hml hv
  obtain ⟨rfl, hsz, hP, hK⟩ := hv
  have hx := B.exec
  have hb := B.bytes
  have hr := B.returns
  have hts := atoms_spec (ws := wsX2_tightenThrough) B.pre
  have hown : s.vm.findClass RX2 = some m.cls := findClass_of_methodNamed B.named
  have hlocks := B.notSynchronized
  subst hsz
  have hS : va_S (zA a s.heap.size) s.heap s.heap [] := va_S.rf
  have hF : CallFix p m c cX2_tightenThrough 4 s _ wsX2_tightenThrough RX2 := ⟨hx, hb, hml, hown, hts⟩
  have i2 : ∀ w ∈ wsX20, w ∈ wsX2_tightenThrough := fun _ h => (List.mem_cons_of_mem _ (List.mem_append_right _ h))
  have hl := lv_entry ([.ref (a 4), .int y1, .int y2]) (n := 4) (Nat.le_of_ble_eq_true rfl)
  rw [lg_entry_eq]
  generalize (lg_sl ([.ref (a 4), .int y1, .int y2]) ++ List.replicate (4 - (lg_sl ([.ref (a 4), .int y1, .int y2])).length) Slot.unset).toArray = ls at hl ⊢
  have hl : lv_has ls 4 [(0, .ref (a 4)), (1, .int y1), (2, .int y2)] := hl
  have b50 : ∀ (S : ZS) (H : Heap) (locs : List Loc) (ls : Array Slot), X2_tightenThrough_b50 S Q → va_P D vwCl (zWS k a S) H → va_S (zA a s.heap.size) s.heap H locs → lv_has ls 4 [(0, .ref (a 4))] → zWv p l e (headSpec wsX2_tightenThrough rm_X2_tightenThrough).room s m ([.ref (a 4), .int y1, .int y2] : List Value) below meth c D k a Q H locs (F0 m 50 ls []) := by
    intro S H locs ls hm hP hS hl
    unfold X2_tightenThrough_b50 at hm
    exact z_retv hx hb hr hlocks hP hS hm dX2_tightenThrough_50
  have L2 : ∀ (x1 : Int32) (x2 : Int32) (n : Nat) (x3 : Int32) (S : ZS) (H : Heap) (locs : List Loc) (ls : Array Slot), zn (X2_tightenThrough_L2 x1 x2 Q) n (x3, S) → va_P D vwCl (zWS k a S) H → va_S (zA a s.heap.size) s.heap H locs → lv_has ls 4 [(0, .ref (a 4)), (1, .int x1), (2, .int x2), (3, .int x3)] → zWv p l e (headSpec wsX2_tightenThrough rm_X2_tightenThrough).room s m ([.ref (a 4), .int y1, .int y2] : List Value) below meth c D k a Q H locs (F0 m 2 ls []) := by
    intro x1 x2 n
    induction n with
    | zero =>
      intro x3 S H locs ls hm
      exact hm.elim
    | succ n ih2 =>
      intro x3 S H locs ls hm hP hS hl
      have hm : X2_tightenThrough_B2 x1 x2 x3 S Q (zn (X2_tightenThrough_L2 x1 x2 Q) n) := hm
      generalize zn (X2_tightenThrough_L2 x1 x2 Q) n = k2 at hm ih2
      unfold X2_tightenThrough_B2 at hm
      have b44 : ∀ (x3 : Int32) (S : ZS) (H : Heap) (locs : List Loc) (ls : Array Slot), X2_tightenThrough_b44 x1 x2 x3 S Q k2 → va_P D vwCl (zWS k a S) H → va_S (zA a s.heap.size) s.heap H locs → lv_has ls 4 [(0, .ref (a 4)), (1, .int x1), (2, .int x2), (3, .int x3)] → zWv p l e (headSpec wsX2_tightenThrough rm_X2_tightenThrough).room s m ([.ref (a 4), .int y1, .int y2] : List Value) below meth c D k a Q H locs (F0 m 44 ls []) := by
        intro x3 S H locs ls hm hP hS hl
        unfold X2_tightenThrough_b44 at hm
        obtain ⟨x3_44, ex3_44⟩ : ∃ y : Int32, y = x3 + (1 : Int32) := ⟨_, rfl⟩
        have hm := hm x3_44 ex3_44
        refine lv_iinc (v := x3_44) (lv' := [(3, .int x3_44), (0, .ref (a 4)), (1, .int x1), (2, .int x2)]) hx hb dX2_tightenThrough_44 hl (k := 3) rfl (by rw [ex3_44]; rfl) (by decide) rfl (fun ls hl => ?_)
        refine lv_goto (tgt := 2) hx hb dX2_tightenThrough_47 (by decide) ?_
        exact ih2 x3_44 S _ _ _ hm hP hS (lv_sub hl [1, 2, 3, 0] rfl)
      refine lv_iload_n hx hb dX2_tightenThrough_2 rfl (lv_at hl 3 rfl) ?_
      refine lv_bipush (v := (9 : Int32)) hx hb dX2_tightenThrough_3 (by decide) ?_
      refine lv_icmp_ge (tgt := 50) hx hb dX2_tightenThrough_5 (by decide) (fun c_5 => ?_) (fun c_5 => ?_)
      · have hm := hm.1 c_5
        exact b50  S _ _ _ hm hP hS (lv_sub hl [0] rfl)
      · have hm := hm.2 c_5
        refine lv_aload_n hx hb dX2_tightenThrough_8 rfl (lv_at hl 0 rfl) ?_
        refine zg_2_most hx hb hts i2 hown hK hP (hts _ (List.mem_of_getElem? (i := 1) rfl)) dX2_tightenThrough_9 ?_
        refine lv_iload_n hx hb dX2_tightenThrough_12 rfl (lv_at hl 2 rfl) ?_
        obtain ⟨h_13, hm⟩ := hm
        refine z_aald hx hb hK hP zQ_39 h_13 dX2_tightenThrough_13 ?_
        refine lv_iload_n hx hb dX2_tightenThrough_14 rfl (lv_at hl 3 rfl) ?_
        obtain ⟨h_15, hm⟩ := hm
        refine z_iald hx hb hK hP (zRi_39 h_13) h_15 dX2_tightenThrough_15 ?_
        refine lv_ldc (v := (1000000000 : Int32)) hx hb hown (hts _ (List.mem_of_getElem? (i := 2) rfl)) dX2_tightenThrough_16 ?_
        refine lv_icmp_ge (tgt := 44) hx hb dX2_tightenThrough_18 (by decide) (fun c_18 => ?_) (fun c_18 => ?_)
        · have hm := hm.1 c_18
          exact b44 x3 S _ _ _ hm hP hS (lv_sub hl [0, 1, 2, 3] rfl)
        · have hm := hm.2 c_18
          refine lv_aload_n hx hb dX2_tightenThrough_21 rfl (lv_at hl 0 rfl) ?_
          refine lv_iload_n hx hb dX2_tightenThrough_22 rfl (lv_at hl 1 rfl) ?_
          refine lv_iload_n hx hb dX2_tightenThrough_23 rfl (lv_at hl 3 rfl) ?_
          refine lv_aload_n hx hb dX2_tightenThrough_24 rfl (lv_at hl 0 rfl) ?_
          refine zg_2_most hx hb hts i2 hown hK hP (hts _ (List.mem_of_getElem? (i := 1) rfl)) dX2_tightenThrough_25 ?_
          refine lv_iload_n hx hb dX2_tightenThrough_28 rfl (lv_at hl 1 rfl) ?_
          obtain ⟨h_29, hm⟩ := hm
          refine z_aald hx hb hK hP zQ_39 h_29 dX2_tightenThrough_29 ?_
          refine lv_iload_n hx hb dX2_tightenThrough_30 rfl (lv_at hl 2 rfl) ?_
          obtain ⟨h_31, hm⟩ := hm
          refine z_iald hx hb hK hP (zRi_39 h_29) h_31 dX2_tightenThrough_31 ?_
          refine lv_aload_n hx hb dX2_tightenThrough_32 rfl (lv_at hl 0 rfl) ?_
          refine zg_2_most hx hb hts i2 hown hK hP (hts _ (List.mem_of_getElem? (i := 1) rfl)) dX2_tightenThrough_33 ?_
          refine lv_iload_n hx hb dX2_tightenThrough_36 rfl (lv_at hl 2 rfl) ?_
          obtain ⟨h_37, hm⟩ := hm
          refine z_aald hx hb hK hP zQ_39 h_37 dX2_tightenThrough_37 ?_
          refine lv_iload_n hx hb dX2_tightenThrough_38 rfl (lv_at hl 3 rfl) ?_
          obtain ⟨h_39, hm⟩ := hm
          refine z_iald hx hb hK hP (zRi_39 h_37) h_39 dX2_tightenThrough_39 ?_
          refine lv_iadd hx hb dX2_tightenThrough_40 ?_
          refine z_cVv (As := [.int x1, .int x3, .int ((S.1 (40 + (x1).toNatClampNeg) (x2).toNatClampNeg) + (S.1 (40 + (x2).toNatClampNeg) (x3).toNatClampNeg))]) (rest := []) hF hK hP hS zO_4 rfl rfl (c_X2_limit l D k a hj x1 x3 ((S.1 (40 + (x1).toNatClampNeg) (x2).toNatClampNeg) + (S.1 (40 + (x2).toNatClampNeg) (x3).toNatClampNeg)) S _ hm _) (cwV 3 hts gX2_tightenThrough_X2_limit rfl rfl rfl (by decide +kernel) ⟨Nat.le_of_ble_eq_true rfl, Nat.le_of_ble_eq_true rfl⟩) rfl hl.1 rfl (Nat.le_of_ble_eq_true rfl) dX2_tightenThrough_41 ⟨Nat.zero_le _, Nat.zero_le _⟩ (fun S_41 H locs hm hP hS => ?_)
          exact b44 x3 S_41 _ _ _ hm hP hS (lv_sub hl [0, 1, 2, 3] rfl)
  unfold X2_tightenThrough at hm
  refine lv_iconst (v := (0 : Int32)) hx hb dX2_tightenThrough_0 (by decide) ?_
  refine lv_istore_n (lv' := [(3, .int (0 : Int32)), (0, .ref (a 4)), (1, .int y1), (2, .int y2)]) hx hb dX2_tightenThrough_1 rfl hl (by decide) rfl (fun ls hl => ?_)
  obtain ⟨n2, hm⟩ := hm
  exact L2 y1 y2 n2 (0 : Int32) S _ _ _ hm hP hS (lv_sub hl [1, 2, 3, 0] rfl)

abbrev rm_X2_tightenLimits : Room := { frames := 3, cells := 0, slots := 0, locals := 67 }
def X2_tightenLimits_b47 (S : ZS) (Q : ZS → Prop) : Prop :=
  Q S
def X2_tightenLimits_b41 (x1 : Int32) (S : ZS) (Q : ZS → Prop) (k2 : Int32 × ZS → Prop) : Prop :=
  ∀ x1_41 : Int32, x1_41 = x1 + (1 : Int32) → k2 (x1_41, S)
def X2_tightenLimits_b35 (x1 : Int32) (x2 : Int32) (S : ZS) (Q : ZS → Prop) (k2 : Int32 × ZS → Prop) (k10 : Int32 × ZS → Prop) : Prop :=
  ∀ x2_35 : Int32, x2_35 = x2 + (1 : Int32) → k10 (x2_35, S)
def X2_tightenLimits_B10 (x1 : Int32) (x2 : Int32) (S : ZS) (Q : ZS → Prop) (k2 : Int32 × ZS → Prop) (k10 : Int32 × ZS → Prop) : Prop :=
  ((9 : Int32) ≤ x2 → X2_tightenLimits_b41 x1 S Q k2) ∧ (¬ (9 : Int32) ≤ x2 → vp_in x2 9 ∧ vp_in x1 9 ∧ ((1000000000 : Int32) ≤ (S.1 (40 + (x2).toNatClampNeg) (x1).toNatClampNeg) → X2_tightenLimits_b35 x1 x2 S Q k2 k10) ∧ (¬ (1000000000 : Int32) ≤ (S.1 (40 + (x2).toNatClampNeg) (x1).toNatClampNeg) → X2_tightenThrough x2 x1 S (fun S_32 => X2_tightenLimits_b35 x1 x2 S_32 Q k2 k10)))
def X2_tightenLimits_L10 (x1 : Int32) (Q : ZS → Prop) (k2 : Int32 × ZS → Prop) : (Int32 × ZS) → ((Int32 × ZS) → Prop) → Prop := fun st k10 => X2_tightenLimits_B10 x1 st.1 st.2 Q k2 k10
def X2_tightenLimits_B2 (x1 : Int32) (S : ZS) (Q : ZS → Prop) (k2 : Int32 × ZS → Prop) : Prop :=
  ((9 : Int32) ≤ x1 → X2_tightenLimits_b47 S Q) ∧ (¬ (9 : Int32) ≤ x1 → zl (X2_tightenLimits_L10 x1 Q k2) ((0 : Int32), S))
def X2_tightenLimits_L2 (Q : ZS → Prop) : (Int32 × ZS) → ((Int32 × ZS) → Prop) → Prop := fun st k2 => X2_tightenLimits_B2 st.1 st.2 Q k2
def X2_tightenLimits (S : ZS) (Q : ZS → Prop) : Prop :=
  zl (X2_tightenLimits_L2 Q) ((0 : Int32), S)
set_option maxHeartbeats 4000000 in
set_option maxRecDepth 100000 in
theorem c_X2_tightenLimits (l : Launch) (D : va_G) (k : Nat → ClassId) (a : Nat → Nat) (hj : zDj a) (S : ZS) (Q : ZS → Prop) (hm : X2_tightenLimits S Q) (sz : Nat) : Met l yX2_tightenLimits wsX2_tightenLimits rm_X2_tightenLimits (zPc D k a [.ref (a 4)] S sz) (va_Qv Q (zB D k a) (zA a sz)) 0 0 (zA a sz) := by
  refine Met.ofW (cc := cX2_tightenLimits) (maxL := 3) (ret := none) (by decide) rfl ?_
  intro p e s m args below meth c s₁ B hml hv
  obtain ⟨rfl, hsz, hP, hK⟩ := hv
  have hx := B.exec
  have hb := B.bytes
  have hr := B.returns
  have hts := atoms_spec (ws := wsX2_tightenLimits) B.pre
  have hown : s.vm.findClass RX2 = some m.cls := findClass_of_methodNamed B.named
  have hlocks := B.notSynchronized
  subst hsz
  have hS : va_S (zA a s.heap.size) s.heap s.heap [] := va_S.rf
  have hF : CallFix p m c cX2_tightenLimits 3 s _ wsX2_tightenLimits RX2 := ⟨hx, hb, hml, hown, hts⟩
  have i2 : ∀ w ∈ wsX20, w ∈ wsX2_tightenLimits := fun _ h => (List.mem_cons_of_mem _ (List.mem_append_right _ h))
  have hl := lv_entry ([.ref (a 4)]) (n := 3) (Nat.le_of_ble_eq_true rfl)
  rw [lg_entry_eq]
  generalize (lg_sl ([.ref (a 4)]) ++ List.replicate (3 - (lg_sl ([.ref (a 4)])).length) Slot.unset).toArray = ls at hl ⊢
  have hl : lv_has ls 3 [(0, .ref (a 4))] := hl
  have b47 : ∀ (S : ZS) (H : Heap) (locs : List Loc) (ls : Array Slot), X2_tightenLimits_b47 S Q → va_P D vwCl (zWS k a S) H → va_S (zA a s.heap.size) s.heap H locs → lv_has ls 3 [(0, .ref (a 4))] → zWv p l e (headSpec wsX2_tightenLimits rm_X2_tightenLimits).room s m ([.ref (a 4)] : List Value) below meth c D k a Q H locs (F0 m 47 ls []) := by
    intro S H locs ls hm hP hS hl
    unfold X2_tightenLimits_b47 at hm
    exact z_retv hx hb hr hlocks hP hS hm dX2_tightenLimits_47
  have L2 : ∀ (n : Nat) (x1 : Int32) (S : ZS) (H : Heap) (locs : List Loc) (ls : Array Slot), zn (X2_tightenLimits_L2 Q) n (x1, S) → va_P D vwCl (zWS k a S) H → va_S (zA a s.heap.size) s.heap H locs → lv_has ls 3 [(0, .ref (a 4)), (1, .int x1)] → zWv p l e (headSpec wsX2_tightenLimits rm_X2_tightenLimits).room s m ([.ref (a 4)] : List Value) below meth c D k a Q H locs (F0 m 2 ls []) := by
    intro n
    induction n with
    | zero =>
      intro x1 S H locs ls hm
      exact hm.elim
    | succ n ih2 =>
      intro x1 S H locs ls hm hP hS hl
      have hm : X2_tightenLimits_B2 x1 S Q (zn (X2_tightenLimits_L2 Q) n) := hm
      generalize zn (X2_tightenLimits_L2 Q) n = k2 at hm ih2
      unfold X2_tightenLimits_B2 at hm
      have b41 : ∀ (x1 : Int32) (S : ZS) (H : Heap) (locs : List Loc) (ls : Array Slot), X2_tightenLimits_b41 x1 S Q k2 → va_P D vwCl (zWS k a S) H → va_S (zA a s.heap.size) s.heap H locs → lv_has ls 3 [(0, .ref (a 4)), (1, .int x1)] → zWv p l e (headSpec wsX2_tightenLimits rm_X2_tightenLimits).room s m ([.ref (a 4)] : List Value) below meth c D k a Q H locs (F0 m 41 ls []) := by
        intro x1 S H locs ls hm hP hS hl
        unfold X2_tightenLimits_b41 at hm
        obtain ⟨x1_41, ex1_41⟩ : ∃ y : Int32, y = x1 + (1 : Int32) := ⟨_, rfl⟩
        have hm := hm x1_41 ex1_41
        refine lv_iinc (v := x1_41) (lv' := [(1, .int x1_41), (0, .ref (a 4))]) hx hb dX2_tightenLimits_41 hl (k := 1) rfl (by rw [ex1_41]; rfl) (by decide) rfl (fun ls hl => ?_)
        refine lv_goto (tgt := 2) hx hb dX2_tightenLimits_44 (by decide) ?_
        exact ih2 x1_41 S _ _ _ hm hP hS (lv_sub hl [1, 0] rfl)
      have L10 : ∀ (x1 : Int32) (n : Nat) (x2 : Int32) (S : ZS) (H : Heap) (locs : List Loc) (ls : Array Slot), zn (X2_tightenLimits_L10 x1 Q k2) n (x2, S) → va_P D vwCl (zWS k a S) H → va_S (zA a s.heap.size) s.heap H locs → lv_has ls 3 [(0, .ref (a 4)), (1, .int x1), (2, .int x2)] → zWv p l e (headSpec wsX2_tightenLimits rm_X2_tightenLimits).room s m ([.ref (a 4)] : List Value) below meth c D k a Q H locs (F0 m 10 ls []) := by
        intro x1 n
        induction n with
        | zero =>
          intro x2 S H locs ls hm
          exact hm.elim
        | succ n ih10 =>
          intro x2 S H locs ls hm hP hS hl
          have hm : X2_tightenLimits_B10 x1 x2 S Q k2 (zn (X2_tightenLimits_L10 x1 Q k2) n) := hm
          generalize zn (X2_tightenLimits_L10 x1 Q k2) n = k10 at hm ih10
          unfold X2_tightenLimits_B10 at hm
          have b35 : ∀ (x2 : Int32) (S : ZS) (H : Heap) (locs : List Loc) (ls : Array Slot), X2_tightenLimits_b35 x1 x2 S Q k2 k10 → va_P D vwCl (zWS k a S) H → va_S (zA a s.heap.size) s.heap H locs → lv_has ls 3 [(0, .ref (a 4)), (1, .int x1), (2, .int x2)] → zWv p l e (headSpec wsX2_tightenLimits rm_X2_tightenLimits).room s m ([.ref (a 4)] : List Value) below meth c D k a Q H locs (F0 m 35 ls []) := by
            intro x2 S H locs ls hm hP hS hl
            unfold X2_tightenLimits_b35 at hm
            obtain ⟨x2_35, ex2_35⟩ : ∃ y : Int32, y = x2 + (1 : Int32) := ⟨_, rfl⟩
            have hm := hm x2_35 ex2_35
            refine lv_iinc (v := x2_35) (lv' := [(2, .int x2_35), (0, .ref (a 4)), (1, .int x1)]) hx hb dX2_tightenLimits_35 hl (k := 2) rfl (by rw [ex2_35]; rfl) (by decide) rfl (fun ls hl => ?_)
            refine lv_goto (tgt := 10) hx hb dX2_tightenLimits_38 (by decide) ?_
            exact ih10 x2_35 S _ _ _ hm hP hS (lv_sub hl [1, 2, 0] rfl)
          refine lv_iload_n hx hb dX2_tightenLimits_10 rfl (lv_at hl 2 rfl) ?_
          refine lv_bipush (v := (9 : Int32)) hx hb dX2_tightenLimits_11 (by decide) ?_
          refine lv_icmp_ge (tgt := 41) hx hb dX2_tightenLimits_13 (by decide) (fun c_13 => ?_) (fun c_13 => ?_)
          · have hm := hm.1 c_13
            exact b41 x1 S _ _ _ hm hP hS (lv_sub hl [0, 1] rfl)
          · have hm := hm.2 c_13
            refine lv_aload_n hx hb dX2_tightenLimits_16 rfl (lv_at hl 0 rfl) ?_
            refine zg_2_most hx hb hts i2 hown hK hP (hts _ (List.mem_of_getElem? (i := 1) rfl)) dX2_tightenLimits_17 ?_
            refine lv_iload_n hx hb dX2_tightenLimits_20 rfl (lv_at hl 2 rfl) ?_
            obtain ⟨h_21, hm⟩ := hm
            refine z_aald hx hb hK hP zQ_39 h_21 dX2_tightenLimits_21 ?_
            refine lv_iload_n hx hb dX2_tightenLimits_22 rfl (lv_at hl 1 rfl) ?_
            obtain ⟨h_23, hm⟩ := hm
            refine z_iald hx hb hK hP (zRi_39 h_21) h_23 dX2_tightenLimits_23 ?_
            refine lv_ldc (v := (1000000000 : Int32)) hx hb hown (hts _ (List.mem_of_getElem? (i := 2) rfl)) dX2_tightenLimits_24 ?_
            refine lv_icmp_ge (tgt := 35) hx hb dX2_tightenLimits_26 (by decide) (fun c_26 => ?_) (fun c_26 => ?_)
            · have hm := hm.1 c_26
              exact b35 x2 S _ _ _ hm hP hS (lv_sub hl [0, 1, 2] rfl)
            · have hm := hm.2 c_26
              refine lv_aload_n hx hb dX2_tightenLimits_29 rfl (lv_at hl 0 rfl) ?_
              refine lv_iload_n hx hb dX2_tightenLimits_30 rfl (lv_at hl 2 rfl) ?_
              refine lv_iload_n hx hb dX2_tightenLimits_31 rfl (lv_at hl 1 rfl) ?_
              refine z_cVv (As := [.int x2, .int x1]) (rest := []) hF hK hP hS zO_4 rfl rfl (c_X2_tightenThrough l D k a hj x2 x1 S _ hm _) (cwV 2 hts gX2_tightenLimits_X2_tightenThrough rfl rfl rfl (by decide +kernel) ⟨Nat.le_of_ble_eq_true rfl, Nat.le_of_ble_eq_true rfl⟩) rfl hl.1 rfl (Nat.le_of_ble_eq_true rfl) dX2_tightenLimits_32 ⟨Nat.zero_le _, Nat.zero_le _⟩ (fun S_32 H locs hm hP hS => ?_)
              exact b35 x2 S_32 _ _ _ hm hP hS (lv_sub hl [0, 1, 2] rfl)
      refine lv_iload_n hx hb dX2_tightenLimits_2 rfl (lv_at hl 1 rfl) ?_
      refine lv_bipush (v := (9 : Int32)) hx hb dX2_tightenLimits_3 (by decide) ?_
      refine lv_icmp_ge (tgt := 47) hx hb dX2_tightenLimits_5 (by decide) (fun c_5 => ?_) (fun c_5 => ?_)
      · have hm := hm.1 c_5
        exact b47  S _ _ _ hm hP hS (lv_sub hl [0] rfl)
      · have hm := hm.2 c_5
        refine lv_iconst (v := (0 : Int32)) hx hb dX2_tightenLimits_8 (by decide) ?_
        refine lv_istore_n (lv' := [(2, .int (0 : Int32)), (0, .ref (a 4)), (1, .int x1)]) hx hb dX2_tightenLimits_9 rfl hl (by decide) rfl (fun ls hl => ?_)
        obtain ⟨n10, hm⟩ := hm
        exact L10 x1 n10 (0 : Int32) S _ _ _ hm hP hS (lv_sub hl [1, 2, 0] rfl)
  unfold X2_tightenLimits at hm
  refine lv_iconst (v := (0 : Int32)) hx hb dX2_tightenLimits_0 (by decide) ?_
  refine lv_istore_n (lv' := [(1, .int (0 : Int32)), (0, .ref (a 4))]) hx hb dX2_tightenLimits_1 rfl hl (by decide) rfl (fun ls hl => ?_)
  obtain ⟨n2, hm⟩ := hm
  exact L2 n2 (0 : Int32) S _ _ _ hm hP hS (lv_sub hl [1, 0] rfl)

abbrev rm_X2_leastBeside : Room := { frames := 0, cells := 0, slots := 0, locals := 0 }
def X2_leastBeside_b33 (t0 : Int32) (S : ZS) (Q : Int32 → ZS → Prop) : Prop :=
  Q t0 S
def X2_leastBeside (y1 : Int32) (y2 : Int32) (S : ZS) (Q : Int32 → ZS → Prop) : Prop :=
  vp_in y1 9 ∧ vp_in y2 9 ∧ ((1000000000 : Int32) ≤ (S.1 (40 + (y1).toNatClampNeg) (y2).toNatClampNeg) → X2_leastBeside_b33 (-1000000000 : Int32) S Q) ∧ (¬ (1000000000 : Int32) ≤ (S.1 (40 + (y1).toNatClampNeg) (y2).toNatClampNeg) → vp_in y2 9 ∧ vp_in y1 9 ∧ vp_in y2 9 ∧ X2_leastBeside_b33 ((S.1 38 (y2).toNatClampNeg) - (S.1 (40 + (y1).toNatClampNeg) (y2).toNatClampNeg)) S Q)
set_option maxHeartbeats 4000000 in
set_option maxRecDepth 100000 in
theorem c_X2_leastBeside (l : Launch) (D : va_G) (k : Nat → ClassId) (a : Nat → Nat) (hj : zDj a) (y1 : Int32) (y2 : Int32) (S : ZS) (Q : Int32 → ZS → Prop) (hm : X2_leastBeside y1 y2 S Q) (sz : Nat) : Met l yX2_leastBeside wsX2_leastBeside rm_X2_leastBeside (zPc D k a [.ref (a 4), .int y1, .int y2] S sz) (va_Qi Q (zB D k a) (zA a sz)) 0 0 (zA a sz) := by
  refine Met.ofW (cc := cX2_leastBeside) (maxL := 3) (ret := (some .int)) (by decide) rfl ?_
  intro p e s m args below meth c s₁ B hml hv
  obtain ⟨rfl, hsz, hP, hK⟩ := hv
  have hx := B.exec
  have hb := B.bytes
  have hr := B.returns
  have hts := atoms_spec (ws := wsX2_leastBeside) B.pre
  have hown : s.vm.findClass RX2 = some m.cls := findClass_of_methodNamed B.named
  have hlocks := B.notSynchronized
  subst hsz
  have hS : va_S (zA a s.heap.size) s.heap s.heap [] := va_S.rf
  have hF : CallFix p m c cX2_leastBeside 3 s _ wsX2_leastBeside RX2 := ⟨hx, hb, hml, hown, hts⟩
  have i2 : ∀ w ∈ wsX20, w ∈ wsX2_leastBeside := fun _ h => (List.mem_cons_of_mem _ (List.mem_append_right _ h))
  have hl := lv_entry ([.ref (a 4), .int y1, .int y2]) (n := 3) (Nat.le_of_ble_eq_true rfl)
  rw [lg_entry_eq]
  generalize (lg_sl ([.ref (a 4), .int y1, .int y2]) ++ List.replicate (3 - (lg_sl ([.ref (a 4), .int y1, .int y2])).length) Slot.unset).toArray = ls at hl ⊢
  have hl : lv_has ls 3 [(0, .ref (a 4)), (1, .int y1), (2, .int y2)] := hl
  have b33 : ∀ (t0 : Int32) (S : ZS) (H : Heap) (locs : List Loc) (ls : Array Slot), X2_leastBeside_b33 t0 S Q → va_P D vwCl (zWS k a S) H → va_S (zA a s.heap.size) s.heap H locs → lv_has ls 3 [(0, .ref (a 4))] → zWi p l e (headSpec wsX2_leastBeside rm_X2_leastBeside).room s m ([.ref (a 4), .int y1, .int y2] : List Value) below meth c D k a Q H locs (F0 m 33 ls [.int t0]) := by
    intro t0 S H locs ls hm hP hS hl
    unfold X2_leastBeside_b33 at hm
    exact z_reti hx hb hr hlocks hP hS hm dX2_leastBeside_33
  unfold X2_leastBeside at hm
  refine lv_aload_n hx hb dX2_leastBeside_0 rfl (lv_at hl 0 rfl) ?_
  refine zg_2_most hx hb hts i2 hown hK hP (hts _ (List.mem_of_getElem? (i := 1) rfl)) dX2_leastBeside_1 ?_
  refine lv_iload_n hx hb dX2_leastBeside_4 rfl (lv_at hl 1 rfl) ?_
  obtain ⟨h_5, hm⟩ := hm
  refine z_aald hx hb hK hP zQ_39 h_5 dX2_leastBeside_5 ?_
  refine lv_iload_n hx hb dX2_leastBeside_6 rfl (lv_at hl 2 rfl) ?_
  obtain ⟨h_7, hm⟩ := hm
  refine z_iald hx hb hK hP (zRi_39 h_5) h_7 dX2_leastBeside_7 ?_
  refine lv_ldc (v := (1000000000 : Int32)) hx hb hown (hts _ (List.mem_of_getElem? (i := 2) rfl)) dX2_leastBeside_8 ?_
  refine lv_icmp_ge (tgt := 31) hx hb dX2_leastBeside_10 (by decide) (fun c_10 => ?_) (fun c_10 => ?_)
  · have hm := hm.1 c_10
    refine lv_ldc (v := (-1000000000 : Int32)) hx hb hown (hts _ (List.mem_of_getElem? (i := 4) rfl)) dX2_leastBeside_31 ?_
    exact b33 (-1000000000 : Int32) S _ _ _ hm hP hS (lv_sub hl [0] rfl)
  · have hm := hm.2 c_10
    refine lv_aload_n hx hb dX2_leastBeside_13 rfl (lv_at hl 0 rfl) ?_
    refine zg_2_level hx hb hts i2 hown hK hP (hts _ (List.mem_of_getElem? (i := 3) rfl)) dX2_leastBeside_14 ?_
    refine lv_iload_n hx hb dX2_leastBeside_17 rfl (lv_at hl 2 rfl) ?_
    obtain ⟨h_18, hm⟩ := hm
    refine z_iald hx hb hK hP zI_38 h_18 dX2_leastBeside_18 ?_
    refine lv_aload_n hx hb dX2_leastBeside_19 rfl (lv_at hl 0 rfl) ?_
    refine zg_2_most hx hb hts i2 hown hK hP (hts _ (List.mem_of_getElem? (i := 1) rfl)) dX2_leastBeside_20 ?_
    refine lv_iload_n hx hb dX2_leastBeside_23 rfl (lv_at hl 1 rfl) ?_
    obtain ⟨h_24, hm⟩ := hm
    refine z_aald hx hb hK hP zQ_39 h_24 dX2_leastBeside_24 ?_
    refine lv_iload_n hx hb dX2_leastBeside_25 rfl (lv_at hl 2 rfl) ?_
    obtain ⟨h_26, hm⟩ := hm
    refine z_iald hx hb hK hP (zRi_39 h_24) h_26 dX2_leastBeside_26 ?_
    refine lv_isub hx hb dX2_leastBeside_27 ?_
    refine lv_goto (tgt := 33) hx hb dX2_leastBeside_28 (by decide) ?_
    exact b33 ((S.1 38 (y2).toNatClampNeg) - (S.1 (40 + (y1).toNatClampNeg) (y2).toNatClampNeg)) S _ _ _ hm hP hS (lv_sub hl [0] rfl)

abbrev rm_X2_greatestBeside : Room := { frames := 0, cells := 0, slots := 0, locals := 0 }
def X2_greatestBeside_b33 (t0 : Int32) (S : ZS) (Q : Int32 → ZS → Prop) : Prop :=
  Q t0 S
def X2_greatestBeside (y1 : Int32) (y2 : Int32) (S : ZS) (Q : Int32 → ZS → Prop) : Prop :=
  vp_in y2 9 ∧ vp_in y1 9 ∧ ((1000000000 : Int32) ≤ (S.1 (40 + (y2).toNatClampNeg) (y1).toNatClampNeg) → X2_greatestBeside_b33 (1000000000 : Int32) S Q) ∧ (¬ (1000000000 : Int32) ≤ (S.1 (40 + (y2).toNatClampNeg) (y1).toNatClampNeg) → vp_in y2 9 ∧ vp_in y2 9 ∧ vp_in y1 9 ∧ X2_greatestBeside_b33 ((S.1 38 (y2).toNatClampNeg) + (S.1 (40 + (y2).toNatClampNeg) (y1).toNatClampNeg)) S Q)
set_option maxHeartbeats 4000000 in
set_option maxRecDepth 100000 in
theorem c_X2_greatestBeside (l : Launch) (D : va_G) (k : Nat → ClassId) (a : Nat → Nat) (hj : zDj a) (y1 : Int32) (y2 : Int32) (S : ZS) (Q : Int32 → ZS → Prop) (hm : X2_greatestBeside y1 y2 S Q) (sz : Nat) : Met l yX2_greatestBeside wsX2_greatestBeside rm_X2_greatestBeside (zPc D k a [.ref (a 4), .int y1, .int y2] S sz) (va_Qi Q (zB D k a) (zA a sz)) 0 0 (zA a sz) := by
  refine Met.ofW (cc := cX2_greatestBeside) (maxL := 3) (ret := (some .int)) (by decide) rfl ?_
  intro p e s m args below meth c s₁ B hml hv
  obtain ⟨rfl, hsz, hP, hK⟩ := hv
  have hx := B.exec
  have hb := B.bytes
  have hr := B.returns
  have hts := atoms_spec (ws := wsX2_greatestBeside) B.pre
  have hown : s.vm.findClass RX2 = some m.cls := findClass_of_methodNamed B.named
  have hlocks := B.notSynchronized
  subst hsz
  have hS : va_S (zA a s.heap.size) s.heap s.heap [] := va_S.rf
  have hF : CallFix p m c cX2_greatestBeside 3 s _ wsX2_greatestBeside RX2 := ⟨hx, hb, hml, hown, hts⟩
  have i2 : ∀ w ∈ wsX20, w ∈ wsX2_greatestBeside := fun _ h => (List.mem_cons_of_mem _ (List.mem_append_right _ h))
  have hl := lv_entry ([.ref (a 4), .int y1, .int y2]) (n := 3) (Nat.le_of_ble_eq_true rfl)
  rw [lg_entry_eq]
  generalize (lg_sl ([.ref (a 4), .int y1, .int y2]) ++ List.replicate (3 - (lg_sl ([.ref (a 4), .int y1, .int y2])).length) Slot.unset).toArray = ls at hl ⊢
  have hl : lv_has ls 3 [(0, .ref (a 4)), (1, .int y1), (2, .int y2)] := hl
  have b33 : ∀ (t0 : Int32) (S : ZS) (H : Heap) (locs : List Loc) (ls : Array Slot), X2_greatestBeside_b33 t0 S Q → va_P D vwCl (zWS k a S) H → va_S (zA a s.heap.size) s.heap H locs → lv_has ls 3 [(0, .ref (a 4))] → zWi p l e (headSpec wsX2_greatestBeside rm_X2_greatestBeside).room s m ([.ref (a 4), .int y1, .int y2] : List Value) below meth c D k a Q H locs (F0 m 33 ls [.int t0]) := by
    intro t0 S H locs ls hm hP hS hl
    unfold X2_greatestBeside_b33 at hm
    exact z_reti hx hb hr hlocks hP hS hm dX2_greatestBeside_33
  unfold X2_greatestBeside at hm
  refine lv_aload_n hx hb dX2_greatestBeside_0 rfl (lv_at hl 0 rfl) ?_
  refine zg_2_most hx hb hts i2 hown hK hP (hts _ (List.mem_of_getElem? (i := 1) rfl)) dX2_greatestBeside_1 ?_
  refine lv_iload_n hx hb dX2_greatestBeside_4 rfl (lv_at hl 2 rfl) ?_
  obtain ⟨h_5, hm⟩ := hm
  refine z_aald hx hb hK hP zQ_39 h_5 dX2_greatestBeside_5 ?_
  refine lv_iload_n hx hb dX2_greatestBeside_6 rfl (lv_at hl 1 rfl) ?_
  obtain ⟨h_7, hm⟩ := hm
  refine z_iald hx hb hK hP (zRi_39 h_5) h_7 dX2_greatestBeside_7 ?_
  refine lv_ldc (v := (1000000000 : Int32)) hx hb hown (hts _ (List.mem_of_getElem? (i := 2) rfl)) dX2_greatestBeside_8 ?_
  refine lv_icmp_ge (tgt := 31) hx hb dX2_greatestBeside_10 (by decide) (fun c_10 => ?_) (fun c_10 => ?_)
  · have hm := hm.1 c_10
    refine lv_ldc (v := (1000000000 : Int32)) hx hb hown (hts _ (List.mem_of_getElem? (i := 2) rfl)) dX2_greatestBeside_31 ?_
    exact b33 (1000000000 : Int32) S _ _ _ hm hP hS (lv_sub hl [0] rfl)
  · have hm := hm.2 c_10
    refine lv_aload_n hx hb dX2_greatestBeside_13 rfl (lv_at hl 0 rfl) ?_
    refine zg_2_level hx hb hts i2 hown hK hP (hts _ (List.mem_of_getElem? (i := 3) rfl)) dX2_greatestBeside_14 ?_
    refine lv_iload_n hx hb dX2_greatestBeside_17 rfl (lv_at hl 2 rfl) ?_
    obtain ⟨h_18, hm⟩ := hm
    refine z_iald hx hb hK hP zI_38 h_18 dX2_greatestBeside_18 ?_
    refine lv_aload_n hx hb dX2_greatestBeside_19 rfl (lv_at hl 0 rfl) ?_
    refine zg_2_most hx hb hts i2 hown hK hP (hts _ (List.mem_of_getElem? (i := 1) rfl)) dX2_greatestBeside_20 ?_
    refine lv_iload_n hx hb dX2_greatestBeside_23 rfl (lv_at hl 2 rfl) ?_
    obtain ⟨h_24, hm⟩ := hm
    refine z_aald hx hb hK hP zQ_39 h_24 dX2_greatestBeside_24 ?_
    refine lv_iload_n hx hb dX2_greatestBeside_25 rfl (lv_at hl 1 rfl) ?_
    obtain ⟨h_26, hm⟩ := hm
    refine z_iald hx hb hK hP (zRi_39 h_24) h_26 dX2_greatestBeside_26 ?_
    refine lv_iadd hx hb dX2_greatestBeside_27 ?_
    refine lv_goto (tgt := 33) hx hb dX2_greatestBeside_28 (by decide) ?_
    exact b33 ((S.1 38 (y2).toNatClampNeg) + (S.1 (40 + (y2).toNatClampNeg) (y1).toNatClampNeg)) S _ _ _ hm hP hS (lv_sub hl [0] rfl)

abbrev rm_X2_nearestToZero : Room := { frames := 1, cells := 0, slots := 0, locals := 22 }
def X2_nearestToZero_b68 (t0 : Int32) (S : ZS) (Q : Int32 → ZS → Prop) : Prop :=
  Q t0 S
def X2_nearestToZero_b55 (x2 : Int32) (x3 : Int32) (S : ZS) (Q : Int32 → ZS → Prop) : Prop :=
  (x2 ≤ 0 → X2_nearestToZero_b68 (if (0 : Int32) < x3 then (0 : Int32) else x3) S Q) ∧ (¬ x2 ≤ 0 → X2_nearestToZero_b68 x2 S Q)
def X2_nearestToZero_B19 (x1 : Int32) (x2 : Int32) (x3 : Int32) (x4 : Int32) (S : ZS) (Q : Int32 → ZS → Prop) (k19 : Int32 × Int32 × Int32 × ZS → Prop) : Prop :=
  (x1 ≤ x4 → X2_nearestToZero_b55 x2 x3 S Q) ∧ (¬ x1 ≤ x4 → X2_leastBeside x1 x4 S (fun r_30 S_30 => ∀ x2_36 : Int32, x2_36 = (if x2 < r_30 then r_30 else x2) → X2_greatestBeside x1 x4 S_30 (fun r_42 S_42 => ∀ x3_48 : Int32, x3_48 = (if r_42 < x3 then r_42 else x3) → ∀ x4_49 : Int32, x4_49 = x4 + (1 : Int32) → k19 (x2_36, x3_48, x4_49, S_42))))
def X2_nearestToZero_L19 (x1 : Int32) (Q : Int32 → ZS → Prop) : (Int32 × Int32 × Int32 × ZS) → ((Int32 × Int32 × Int32 × ZS) → Prop) → Prop := fun st k19 => X2_nearestToZero_B19 x1 st.1 st.2.1 st.2.2.1 st.2.2.2 Q k19
def X2_nearestToZero (y1 : Int32) (S : ZS) (Q : Int32 → ZS → Prop) : Prop :=
  X2_leastBeside y1 (8 : Int32) S (fun r_4 S_4 => X2_greatestBeside y1 (8 : Int32) S_4 (fun r_12 S_12 => zl (X2_nearestToZero_L19 y1 Q) (r_4, r_12, (0 : Int32), S_12)))
set_option maxHeartbeats 4000000 in
set_option maxRecDepth 100000 in
theorem c_X2_nearestToZero (l : Launch) (D : va_G) (k : Nat → ClassId) (a : Nat → Nat) (hj : zDj a) (y1 : Int32) (S : ZS) (Q : Int32 → ZS → Prop) (hm : X2_nearestToZero y1 S Q) (sz : Nat) : Met l yX2_nearestToZero wsX2_nearestToZero rm_X2_nearestToZero (zPc D k a [.ref (a 4), .int y1] S sz) (va_Qi Q (zB D k a) (zA a sz)) 0 0 (zA a sz) := by
  refine Met.ofW (cc := cX2_nearestToZero) (maxL := 5) (ret := (some .int)) (by decide) rfl ?_
  intro p e s m args below meth c s₁ B hml hv
  obtain ⟨rfl, hsz, hP, hK⟩ := hv
  have hx := B.exec
  have hb := B.bytes
  have hr := B.returns
  have hts := atoms_spec (ws := wsX2_nearestToZero) B.pre
  have hown : s.vm.findClass RX2 = some m.cls := findClass_of_methodNamed B.named
  have hlocks := B.notSynchronized
  subst hsz
  have hS : va_S (zA a s.heap.size) s.heap s.heap [] := va_S.rf
  have hF : CallFix p m c cX2_nearestToZero 5 s _ wsX2_nearestToZero RX2 := ⟨hx, hb, hml, hown, hts⟩
  have hl := lv_entry ([.ref (a 4), .int y1]) (n := 5) (Nat.le_of_ble_eq_true rfl)
  rw [lg_entry_eq]
  generalize (lg_sl ([.ref (a 4), .int y1]) ++ List.replicate (5 - (lg_sl ([.ref (a 4), .int y1])).length) Slot.unset).toArray = ls at hl ⊢
  have hl : lv_has ls 5 [(0, .ref (a 4)), (1, .int y1)] := hl
  have b55 : ∀ (x2 : Int32) (x3 : Int32) (S : ZS) (H : Heap) (locs : List Loc) (ls : Array Slot), X2_nearestToZero_b55 x2 x3 S Q → va_P D vwCl (zWS k a S) H → va_S (zA a s.heap.size) s.heap H locs → lv_has ls 5 [(0, .ref (a 4)), (2, .int x2), (3, .int x3)] → zWi p l e (headSpec wsX2_nearestToZero rm_X2_nearestToZero).room s m ([.ref (a 4), .int y1] : List Value) below meth c D k a Q H locs (F0 m 55 ls []) := by
    intro x2 x3 S H locs ls hm hP hS hl
    unfold X2_nearestToZero_b55 at hm
    have b68 : ∀ (t0 : Int32) (S : ZS) (H : Heap) (locs : List Loc) (ls : Array Slot), X2_nearestToZero_b68 t0 S Q → va_P D vwCl (zWS k a S) H → va_S (zA a s.heap.size) s.heap H locs → lv_has ls 5 [(0, .ref (a 4))] → zWi p l e (headSpec wsX2_nearestToZero rm_X2_nearestToZero).room s m ([.ref (a 4), .int y1] : List Value) below meth c D k a Q H locs (F0 m 68 ls [.int t0]) := by
      intro t0 S H locs ls hm hP hS hl
      unfold X2_nearestToZero_b68 at hm
      exact z_reti hx hb hr hlocks hP hS hm dX2_nearestToZero_68
    refine lv_iload_n hx hb dX2_nearestToZero_55 rfl (lv_at hl 1 rfl) ?_
    refine lv_if_le (tgt := 63) hx hb dX2_nearestToZero_56 (by decide) (fun c_56 => ?_) (fun c_56 => ?_)
    · have hm := hm.1 c_56
      refine lv_iload_n hx hb dX2_nearestToZero_63 rfl (lv_at hl 2 rfl) ?_
      refine lv_iconst (v := (0 : Int32)) hx hb dX2_nearestToZero_64 (by decide) ?_
      refine va_mmin hx hb (hml.trans hl.1.symm) hown (hts _ (List.mem_of_getElem? (i := 5) rfl)) (hts _ (List.mem_of_getElem? (i := 6) rfl)) (hts _ (List.mem_of_getElem? (i := 3) rfl)) (hts _ (List.mem_of_getElem? (i := 7) rfl)) (Nat.le_of_ble_eq_true rfl) (Nat.le_of_ble_eq_true rfl) (Nat.zero_le _) (Nat.zero_le _) dX2_nearestToZero_65 ?_
      exact b68 (if (0 : Int32) < x3 then (0 : Int32) else x3) S _ _ _ hm hP hS (lv_sub hl [0] rfl)
    · have hm := hm.2 c_56
      refine lv_iload_n hx hb dX2_nearestToZero_59 rfl (lv_at hl 1 rfl) ?_
      refine lv_goto (tgt := 68) hx hb dX2_nearestToZero_60 (by decide) ?_
      exact b68 x2 S _ _ _ hm hP hS (lv_sub hl [0] rfl)
  have L19 : ∀ (x1 : Int32) (n : Nat) (x2 : Int32) (x3 : Int32) (x4 : Int32) (S : ZS) (H : Heap) (locs : List Loc) (ls : Array Slot), zn (X2_nearestToZero_L19 x1 Q) n (x2, x3, x4, S) → va_P D vwCl (zWS k a S) H → va_S (zA a s.heap.size) s.heap H locs → lv_has ls 5 [(0, .ref (a 4)), (1, .int x1), (2, .int x2), (3, .int x3), (4, .int x4)] → zWi p l e (headSpec wsX2_nearestToZero rm_X2_nearestToZero).room s m ([.ref (a 4), .int y1] : List Value) below meth c D k a Q H locs (F0 m 19 ls []) := by
    intro x1 n
    induction n with
    | zero =>
      intro x2 x3 x4 S H locs ls hm
      exact hm.elim
    | succ n ih19 =>
      intro x2 x3 x4 S H locs ls hm hP hS hl
      have hm : X2_nearestToZero_B19 x1 x2 x3 x4 S Q (zn (X2_nearestToZero_L19 x1 Q) n) := hm
      generalize zn (X2_nearestToZero_L19 x1 Q) n = k19 at hm ih19
      unfold X2_nearestToZero_B19 at hm
      refine lv_iload hx hb dX2_nearestToZero_19 (lv_at hl 4 rfl) ?_
      refine lv_iload_n hx hb dX2_nearestToZero_21 rfl (lv_at hl 1 rfl) ?_
      refine lv_icmp_ge (tgt := 55) hx hb dX2_nearestToZero_22 (by decide) (fun c_22 => ?_) (fun c_22 => ?_)
      · have hm := hm.1 c_22
        exact b55 x2 x3 S _ _ _ hm hP hS (lv_sub hl [0, 2, 3] rfl)
      · have hm := hm.2 c_22
        refine lv_iload_n hx hb dX2_nearestToZero_25 rfl (lv_at hl 2 rfl) ?_
        refine lv_aload_n hx hb dX2_nearestToZero_26 rfl (lv_at hl 0 rfl) ?_
        refine lv_iload_n hx hb dX2_nearestToZero_27 rfl (lv_at hl 1 rfl) ?_
        refine lv_iload hx hb dX2_nearestToZero_28 (lv_at hl 4 rfl) ?_
        refine z_cVi (As := [.int x1, .int x4]) (rest := [.int x2]) hF hK hP hS zO_4 rfl rfl (c_X2_leastBeside l D k a hj x1 x4 S _ hm _) (cwV 2 hts gX2_nearestToZero_X2_leastBeside rfl rfl rfl (by decide +kernel) ⟨Nat.le_of_ble_eq_true rfl, Nat.le_of_ble_eq_true rfl⟩) rfl hl.1 rfl (Nat.le_of_ble_eq_true rfl) dX2_nearestToZero_30 ⟨Nat.zero_le _, Nat.zero_le _⟩ (fun r_30 S_30 H locs hm hP hS => ?_)
        refine va_mmax hx hb (hml.trans hl.1.symm) hown (hts _ (List.mem_of_getElem? (i := 1) rfl)) (hts _ (List.mem_of_getElem? (i := 2) rfl)) (hts _ (List.mem_of_getElem? (i := 3) rfl)) (hts _ (List.mem_of_getElem? (i := 4) rfl)) (Nat.le_of_ble_eq_true rfl) (Nat.le_of_ble_eq_true rfl) (Nat.zero_le _) (Nat.zero_le _) dX2_nearestToZero_33 ?_
        refine lv_topi (fun x2_36 ex2_36 => ?_)
        have hm := hm x2_36 ex2_36
        refine lv_istore_n (lv' := [(2, .int x2_36), (0, .ref (a 4)), (1, .int x1), (3, .int x3), (4, .int x4)]) hx hb dX2_nearestToZero_36 rfl hl (by decide) rfl (fun ls hl => ?_)
        refine lv_iload_n hx hb dX2_nearestToZero_37 rfl (lv_at hl 3 rfl) ?_
        refine lv_aload_n hx hb dX2_nearestToZero_38 rfl (lv_at hl 1 rfl) ?_
        refine lv_iload_n hx hb dX2_nearestToZero_39 rfl (lv_at hl 2 rfl) ?_
        refine lv_iload hx hb dX2_nearestToZero_40 (lv_at hl 4 rfl) ?_
        refine z_cVi (As := [.int x1, .int x4]) (rest := [.int x3]) hF hK hP hS zO_4 rfl rfl (c_X2_greatestBeside l D k a hj x1 x4 S_30 _ hm _) (cwV 2 hts gX2_nearestToZero_X2_greatestBeside rfl rfl rfl (by decide +kernel) ⟨Nat.le_of_ble_eq_true rfl, Nat.le_of_ble_eq_true rfl⟩) rfl hl.1 rfl (Nat.le_of_ble_eq_true rfl) dX2_nearestToZero_42 ⟨Nat.zero_le _, Nat.zero_le _⟩ (fun r_42 S_42 H locs hm hP hS => ?_)
        refine va_mmin hx hb (hml.trans hl.1.symm) hown (hts _ (List.mem_of_getElem? (i := 5) rfl)) (hts _ (List.mem_of_getElem? (i := 6) rfl)) (hts _ (List.mem_of_getElem? (i := 3) rfl)) (hts _ (List.mem_of_getElem? (i := 7) rfl)) (Nat.le_of_ble_eq_true rfl) (Nat.le_of_ble_eq_true rfl) (Nat.zero_le _) (Nat.zero_le _) dX2_nearestToZero_45 ?_
        refine lv_topi (fun x3_48 ex3_48 => ?_)
        have hm := hm x3_48 ex3_48
        refine lv_istore_n (lv' := [(3, .int x3_48), (2, .int x2_36), (0, .ref (a 4)), (1, .int x1), (4, .int x4)]) hx hb dX2_nearestToZero_48 rfl hl (by decide) rfl (fun ls hl => ?_)
        obtain ⟨x4_49, ex4_49⟩ : ∃ y : Int32, y = x4 + (1 : Int32) := ⟨_, rfl⟩
        have hm := hm x4_49 ex4_49
        refine lv_iinc (v := x4_49) (lv' := [(4, .int x4_49), (3, .int x3_48), (2, .int x2_36), (0, .ref (a 4)), (1, .int x1)]) hx hb dX2_nearestToZero_49 hl (k := 4) rfl (by rw [ex4_49]; rfl) (by decide) rfl (fun ls hl => ?_)
        refine lv_goto (tgt := 19) hx hb dX2_nearestToZero_52 (by decide) ?_
        exact ih19 x2_36 x3_48 x4_49 S_42 _ _ _ hm hP hS (lv_sub hl [3, 4, 2, 1, 0] rfl)
  unfold X2_nearestToZero at hm
  refine lv_aload_n hx hb dX2_nearestToZero_0 rfl (lv_at hl 0 rfl) ?_
  refine lv_iload_n hx hb dX2_nearestToZero_1 rfl (lv_at hl 1 rfl) ?_
  refine lv_bipush (v := (8 : Int32)) hx hb dX2_nearestToZero_2 (by decide) ?_
  refine z_cVi (As := [.int y1, .int (8 : Int32)]) (rest := []) hF hK hP hS zO_4 rfl rfl (c_X2_leastBeside l D k a hj y1 (8 : Int32) S _ hm _) (cwV 2 hts gX2_nearestToZero_X2_leastBeside rfl rfl rfl (by decide +kernel) ⟨Nat.le_of_ble_eq_true rfl, Nat.le_of_ble_eq_true rfl⟩) rfl hl.1 rfl (Nat.le_of_ble_eq_true rfl) dX2_nearestToZero_4 ⟨Nat.zero_le _, Nat.zero_le _⟩ (fun r_4 S_4 H locs hm hP hS => ?_)
  refine lv_istore_n (lv' := [(2, .int r_4), (0, .ref (a 4)), (1, .int y1)]) hx hb dX2_nearestToZero_7 rfl hl (by decide) rfl (fun ls hl => ?_)
  refine lv_aload_n hx hb dX2_nearestToZero_8 rfl (lv_at hl 1 rfl) ?_
  refine lv_iload_n hx hb dX2_nearestToZero_9 rfl (lv_at hl 2 rfl) ?_
  refine lv_bipush (v := (8 : Int32)) hx hb dX2_nearestToZero_10 (by decide) ?_
  refine z_cVi (As := [.int y1, .int (8 : Int32)]) (rest := []) hF hK hP hS zO_4 rfl rfl (c_X2_greatestBeside l D k a hj y1 (8 : Int32) S_4 _ hm _) (cwV 2 hts gX2_nearestToZero_X2_greatestBeside rfl rfl rfl (by decide +kernel) ⟨Nat.le_of_ble_eq_true rfl, Nat.le_of_ble_eq_true rfl⟩) rfl hl.1 rfl (Nat.le_of_ble_eq_true rfl) dX2_nearestToZero_12 ⟨Nat.zero_le _, Nat.zero_le _⟩ (fun r_12 S_12 H locs hm hP hS => ?_)
  refine lv_istore_n (lv' := [(3, .int r_12), (2, .int r_4), (0, .ref (a 4)), (1, .int y1)]) hx hb dX2_nearestToZero_15 rfl hl (by decide) rfl (fun ls hl => ?_)
  refine lv_iconst (v := (0 : Int32)) hx hb dX2_nearestToZero_16 (by decide) ?_
  refine lv_istore (lv' := [(4, .int (0 : Int32)), (3, .int r_12), (2, .int r_4), (0, .ref (a 4)), (1, .int y1)]) hx hb dX2_nearestToZero_17 hl (by decide) rfl (fun ls hl => ?_)
  obtain ⟨n19, hm⟩ := hm
  exact L19 y1 n19 r_4 r_12 (0 : Int32) S_12 _ _ _ hm hP hS (lv_sub hl [3, 4, 2, 1, 0] rfl)

abbrev rm_X2_choose : Room := { frames := 4, cells := 0, slots := 0, locals := 89 }
def X2_choose_b64 (S : ZS) (Q : ZS → Prop) : Prop :=
  Q S
def X2_choose_B20 (x3 : Int32) (x4 : Int32) (S : ZS) (Q : ZS → Prop) (k20 : Int32 × ZS → Prop) : Prop :=
  (x3 ≤ x4 → X2_choose_b64 S Q) ∧ (¬ x3 ≤ x4 → X2_nearestToZero x4 S (fun r_35 S_35 => vp_in x4 9 ∧ ∀ S_38 : ZS, S_38 = zu S_35 38 (x4).toNatClampNeg r_35 → vp_in x4 9 ∧ vp_in x4 8 ∧ vp_in x4 8 ∧ ∀ S_57 : ZS, S_57 = zu S_38 37 (x4).toNatClampNeg ((S_38.1 38 (x4).toNatClampNeg) * (S_38.1 23 (x4).toNatClampNeg)) → ∀ x4_58 : Int32, x4_58 = x4 + (1 : Int32) → k20 (x4_58, S_57)))
def X2_choose_L20 (x3 : Int32) (Q : ZS → Prop) : (Int32 × ZS) → ((Int32 × ZS) → Prop) → Prop := fun st k20 => X2_choose_B20 x3 st.1 st.2 Q k20
def X2_choose (y3 : Int32) (S : ZS) (Q : ZS → Prop) : Prop :=
  X2_setLimits S (fun S_2 => X2_tightenLimits S_2 (fun S_6 => vp_in (8 : Int32) 9 ∧ ∀ S_16 : ZS, S_16 = zu S_6 38 ((8 : Int32)).toNatClampNeg (0 : Int32) → zl (X2_choose_L20 y3 Q) ((0 : Int32), S_16)))
set_option maxHeartbeats 4000000 in
set_option maxRecDepth 100000 in
theorem c_X2_choose (l : Launch) (D : va_G) (k : Nat → ClassId) (a : Nat → Nat) (hj : zDj a) (y3 : Int32) (S : ZS) (Q : ZS → Prop) (hm : X2_choose y3 S Q) (sz : Nat) : Met l yX2_choose wsX2_choose rm_X2_choose (zPc D k a [.ref (a 4), .ref (a 3), .ref (a 23), .int y3] S sz) (va_Qv Q (zB D k a) (zA a sz)) 0 0 (zA a sz) := by
  refine Met.ofW (cc := cX2_choose) (maxL := 5) (ret := none) (by decide) rfl ?_
  intro p e s m args below meth c s₁ B hml hv
  obtain ⟨rfl, hsz, hP, hK⟩ := hv
  have hx := B.exec
  have hb := B.bytes
  have hr := B.returns
  have hts := atoms_spec (ws := wsX2_choose) B.pre
  have hown : s.vm.findClass RX2 = some m.cls := findClass_of_methodNamed B.named
  have hlocks := B.notSynchronized
  subst hsz
  have hS : va_S (zA a s.heap.size) s.heap s.heap [] := va_S.rf
  have hF : CallFix p m c cX2_choose 5 s _ wsX2_choose RX2 := ⟨hx, hb, hml, hown, hts⟩
  have i2 : ∀ w ∈ wsX20, w ∈ wsX2_choose := fun _ h => (List.mem_cons_of_mem _ (List.mem_append_left _ (List.mem_append_right _ h)))
  have hl := lv_entry ([.ref (a 4), .ref (a 3), .ref (a 23), .int y3]) (n := 5) (Nat.le_of_ble_eq_true rfl)
  rw [lg_entry_eq]
  generalize (lg_sl ([.ref (a 4), .ref (a 3), .ref (a 23), .int y3]) ++ List.replicate (5 - (lg_sl ([.ref (a 4), .ref (a 3), .ref (a 23), .int y3])).length) Slot.unset).toArray = ls at hl ⊢
  have hl : lv_has ls 5 [(0, .ref (a 4)), (1, .ref (a 3)), (2, .ref (a 23)), (3, .int y3)] := hl
  have b64 : ∀ (S : ZS) (H : Heap) (locs : List Loc) (ls : Array Slot), X2_choose_b64 S Q → va_P D vwCl (zWS k a S) H → va_S (zA a s.heap.size) s.heap H locs → lv_has ls 5 [(0, .ref (a 4)), (1, .ref (a 3)), (2, .ref (a 23))] → zWv p l e (headSpec wsX2_choose rm_X2_choose).room s m ([.ref (a 4), .ref (a 3), .ref (a 23), .int y3] : List Value) below meth c D k a Q H locs (F0 m 64 ls []) := by
    intro S H locs ls hm hP hS hl
    unfold X2_choose_b64 at hm
    exact z_retv hx hb hr hlocks hP hS hm dX2_choose_64
  have L20 : ∀ (x3 : Int32) (n : Nat) (x4 : Int32) (S : ZS) (H : Heap) (locs : List Loc) (ls : Array Slot), zn (X2_choose_L20 x3 Q) n (x4, S) → va_P D vwCl (zWS k a S) H → va_S (zA a s.heap.size) s.heap H locs → lv_has ls 5 [(0, .ref (a 4)), (1, .ref (a 3)), (2, .ref (a 23)), (3, .int x3), (4, .int x4)] → zWv p l e (headSpec wsX2_choose rm_X2_choose).room s m ([.ref (a 4), .ref (a 3), .ref (a 23), .int y3] : List Value) below meth c D k a Q H locs (F0 m 20 ls []) := by
    intro x3 n
    induction n with
    | zero =>
      intro x4 S H locs ls hm
      exact hm.elim
    | succ n ih20 =>
      intro x4 S H locs ls hm hP hS hl
      have hm : X2_choose_B20 x3 x4 S Q (zn (X2_choose_L20 x3 Q) n) := hm
      generalize zn (X2_choose_L20 x3 Q) n = k20 at hm ih20
      unfold X2_choose_B20 at hm
      refine lv_iload hx hb dX2_choose_20 (lv_at hl 4 rfl) ?_
      refine lv_iload_n hx hb dX2_choose_22 rfl (lv_at hl 3 rfl) ?_
      refine lv_icmp_ge (tgt := 64) hx hb dX2_choose_23 (by decide) (fun c_23 => ?_) (fun c_23 => ?_)
      · have hm := hm.1 c_23
        exact b64  S _ _ _ hm hP hS (lv_sub hl [0, 1, 2] rfl)
      · have hm := hm.2 c_23
        refine lv_aload_n hx hb dX2_choose_26 rfl (lv_at hl 0 rfl) ?_
        refine zg_2_level hx hb hts i2 hown hK hP (hts _ (List.mem_of_getElem? (i := 1) rfl)) dX2_choose_27 ?_
        refine lv_iload hx hb dX2_choose_30 (lv_at hl 4 rfl) ?_
        refine lv_aload_n hx hb dX2_choose_32 rfl (lv_at hl 0 rfl) ?_
        refine lv_iload hx hb dX2_choose_33 (lv_at hl 4 rfl) ?_
        refine z_cVi (As := [.int x4]) (rest := [.int x4, .ref (a 38)]) hF hK hP hS zO_4 rfl rfl (c_X2_nearestToZero l D k a hj x4 S _ hm _) (cwV 1 hts gX2_choose_X2_nearestToZero rfl rfl rfl (by decide +kernel) ⟨Nat.le_of_ble_eq_true rfl, Nat.le_of_ble_eq_true rfl⟩) rfl hl.1 rfl (Nat.le_of_ble_eq_true rfl) dX2_choose_35 ⟨Nat.zero_le _, Nat.zero_le _⟩ (fun r_35 S_35 H locs hm hP hS => ?_)
        obtain ⟨h_38, hm⟩ := hm
        refine z_iast hx hb hj hK hP hS zI_38 h_38 dX2_choose_38 (fun H locs hP hS => ?_)
        obtain ⟨S_38, eS_38⟩ : ∃ z : ZS, z = zu S_35 38 (x4).toNatClampNeg r_35 := ⟨_, rfl⟩
        rw [← eS_38] at hP
        have hm := hm S_38 eS_38
        refine lv_aload_n hx hb dX2_choose_39 rfl (lv_at hl 0 rfl) ?_
        refine zg_2_ofRow hx hb hts i2 hown hK hP (hts _ (List.mem_of_getElem? (i := 2) rfl)) dX2_choose_40 ?_
        refine lv_iload hx hb dX2_choose_43 (lv_at hl 4 rfl) ?_
        refine lv_aload_n hx hb dX2_choose_45 rfl (lv_at hl 0 rfl) ?_
        refine zg_2_level hx hb hts i2 hown hK hP (hts _ (List.mem_of_getElem? (i := 1) rfl)) dX2_choose_46 ?_
        refine lv_iload hx hb dX2_choose_49 (lv_at hl 4 rfl) ?_
        obtain ⟨h_51, hm⟩ := hm
        refine z_iald hx hb hK hP zI_38 h_51 dX2_choose_51 ?_
        refine lv_aload_n hx hb dX2_choose_52 rfl (lv_at hl 2 rfl) ?_
        refine lv_iload hx hb dX2_choose_53 (lv_at hl 4 rfl) ?_
        obtain ⟨h_55, hm⟩ := hm
        refine z_iald hx hb hK hP zI_23 h_55 dX2_choose_55 ?_
        refine lv_imul hx hb dX2_choose_56 ?_
        obtain ⟨h_57, hm⟩ := hm
        refine z_iast hx hb hj hK hP hS zI_37 h_57 dX2_choose_57 (fun H locs hP hS => ?_)
        obtain ⟨S_57, eS_57⟩ : ∃ z : ZS, z = zu S_38 37 (x4).toNatClampNeg ((S_38.1 38 (x4).toNatClampNeg) * (S_38.1 23 (x4).toNatClampNeg)) := ⟨_, rfl⟩
        rw [← eS_57] at hP
        have hm := hm S_57 eS_57
        obtain ⟨x4_58, ex4_58⟩ : ∃ y : Int32, y = x4 + (1 : Int32) := ⟨_, rfl⟩
        have hm := hm x4_58 ex4_58
        refine lv_iinc (v := x4_58) (lv' := [(4, .int x4_58), (0, .ref (a 4)), (1, .ref (a 3)), (2, .ref (a 23)), (3, .int x3)]) hx hb dX2_choose_58 hl (k := 4) rfl (by rw [ex4_58]; rfl) (by decide) rfl (fun ls hl => ?_)
        refine lv_goto (tgt := 20) hx hb dX2_choose_61 (by decide) ?_
        exact ih20 x4_58 S_57 _ _ _ hm hP hS (lv_sub hl [1, 2, 3, 4, 0] rfl)
  unfold X2_choose at hm
  refine lv_aload_n hx hb dX2_choose_0 rfl (lv_at hl 0 rfl) ?_
  refine lv_aload_n hx hb dX2_choose_1 rfl (lv_at hl 1 rfl) ?_
  refine z_cVv (As := [.ref (a 3)]) (rest := []) hF hK hP hS zO_4 rfl rfl (c_X2_setLimits l D k a hj  S _ hm _) (cwV 1 hts gX2_choose_X2_setLimits rfl rfl rfl (by decide +kernel) ⟨Nat.le_of_ble_eq_true rfl, Nat.le_of_ble_eq_true rfl⟩) rfl hl.1 rfl (Nat.le_of_ble_eq_true rfl) dX2_choose_2 ⟨Nat.zero_le _, Nat.zero_le _⟩ (fun S_2 H locs hm hP hS => ?_)
  refine lv_aload_n hx hb dX2_choose_5 rfl (lv_at hl 0 rfl) ?_
  refine z_cVv (As := []) (rest := []) hF hK hP hS zO_4 rfl rfl (c_X2_tightenLimits l D k a hj  S_2 _ hm _) (cwV 0 hts gX2_choose_X2_tightenLimits rfl rfl rfl (by decide +kernel) ⟨Nat.le_of_ble_eq_true rfl, Nat.le_of_ble_eq_true rfl⟩) rfl hl.1 rfl (Nat.le_of_ble_eq_true rfl) dX2_choose_6 ⟨Nat.zero_le _, Nat.zero_le _⟩ (fun S_6 H locs hm hP hS => ?_)
  refine lv_aload_n hx hb dX2_choose_9 rfl (lv_at hl 0 rfl) ?_
  refine zg_2_level hx hb hts i2 hown hK hP (hts _ (List.mem_of_getElem? (i := 1) rfl)) dX2_choose_10 ?_
  refine lv_bipush (v := (8 : Int32)) hx hb dX2_choose_13 (by decide) ?_
  refine lv_iconst (v := (0 : Int32)) hx hb dX2_choose_15 (by decide) ?_
  obtain ⟨h_16, hm⟩ := hm
  refine z_iast hx hb hj hK hP hS zI_38 h_16 dX2_choose_16 (fun H locs hP hS => ?_)
  obtain ⟨S_16, eS_16⟩ : ∃ z : ZS, z = zu S_6 38 ((8 : Int32)).toNatClampNeg (0 : Int32) := ⟨_, rfl⟩
  rw [← eS_16] at hP
  have hm := hm S_16 eS_16
  refine lv_iconst (v := (0 : Int32)) hx hb dX2_choose_17 (by decide) ?_
  refine lv_istore (lv' := [(4, .int (0 : Int32)), (0, .ref (a 4)), (1, .ref (a 3)), (2, .ref (a 23)), (3, .int y3)]) hx hb dX2_choose_18 hl (by decide) rfl (fun ls hl => ?_)
  obtain ⟨n20, hm⟩ := hm
  exact L20 y3 n20 (0 : Int32) S_16 _ _ _ hm hP hS (lv_sub hl [1, 2, 3, 4, 0] rfl)

