abbrev rm_X0_mostOf : Room := { frames := 1, cells := 0, slots := 0, locals := 21 }
def X0_mostOf_b32 (t0 : Int32) (S : ZS) (Q : Int32 → ZS → Prop) : Prop :=
  Q t0 S
def X0_mostOf (y2 : Int32) (y3 : Int32) (S : ZS) (Q : Int32 → ZS → Prop) : Prop :=
  vp_in (0 : Int32) 8 ∧ vp_in y2 10 ∧ ∀ x4_8 : Int32, x4_8 = (S.1 (14 + ((0 : Int32)).toNatClampNeg) (y2).toNatClampNeg) → (x4_8 ≤ 0 → X0_mostOf_b32 (0 : Int32) S Q) ∧ (¬ x4_8 ≤ 0 → vp_in y2 10 ∧ ¬ x4_8 = 0 ∧ X0_mostOf_b32 (if (y3 / x4_8) < (S.1 9 (y2).toNatClampNeg) then (y3 / x4_8) else (S.1 9 (y2).toNatClampNeg)) S Q)
set_option maxHeartbeats 4000000 in
set_option maxRecDepth 100000 in
theorem c_X0_mostOf (l : Launch) (D : va_G) (k : Nat → ClassId) (a : Nat → Nat) (hj : zDj a) (y2 : Int32) (y3 : Int32) (S : ZS) (Q : Int32 → ZS → Prop) (hm : X0_mostOf y2 y3 S Q) (sz : Nat) : Met l yX0_mostOf wsX0_mostOf rm_X0_mostOf (zPc D k a [.ref (a 6), .ref (a 1), .int y2, .int y3] S sz) (va_Qi Q (zB D k a) (zA a sz)) 0 0 (zA a sz) := by
  refine Met.ofW (cc := cX0_mostOf) (maxL := 5) (ret := (some .int)) (by decide) rfl ?_
  intro p e s m args below meth c s₁ B hml hv
  obtain ⟨rfl, hsz, hP, hK⟩ := hv
  have hx := B.exec
  have hb := B.bytes
  have hr := B.returns
  have hts := atoms_spec (ws := wsX0_mostOf) B.pre
  have hown : s.vm.findClass RX0 = some m.cls := findClass_of_methodNamed B.named
  have hlocks := B.notSynchronized
  subst hsz
  have hS : va_S (zA a s.heap.size) s.heap s.heap [] := va_S.rf
  have hF : CallFix p m c cX0_mostOf 5 s _ wsX0_mostOf RX0 := ⟨hx, hb, hml, hown, hts⟩
  have i5 : ∀ w ∈ wsX50, w ∈ wsX0_mostOf := fun _ h => (List.mem_cons_of_mem _ (List.mem_append_right _ h))
  have hl := lv_entry ([.ref (a 6), .ref (a 1), .int y2, .int y3]) (n := 5) (Nat.le_of_ble_eq_true rfl)
  rw [lg_entry_eq]
  generalize (lg_sl ([.ref (a 6), .ref (a 1), .int y2, .int y3]) ++ List.replicate (5 - (lg_sl ([.ref (a 6), .ref (a 1), .int y2, .int y3])).length) Slot.unset).toArray = ls at hl ⊢
  have hl : lv_has ls 5 [(0, .ref (a 6)), (1, .ref (a 1)), (2, .int y2), (3, .int y3)] := hl
  have b32 : ∀ (t0 : Int32) (S : ZS) (H : Heap) (locs : List Loc) (ls : Array Slot), X0_mostOf_b32 t0 S Q → va_P D vwCl (zWS k a S) H → va_S (zA a s.heap.size) s.heap H locs → lv_has ls 5 [(0, .ref (a 6)), (1, .ref (a 1))] → zWi p l e (headSpec wsX0_mostOf rm_X0_mostOf).room s m ([.ref (a 6), .ref (a 1), .int y2, .int y3] : List Value) below meth c D k a Q H locs (F0 m 32 ls [.int t0]) := by
    intro t0 S H locs ls hm hP hS hl
    unfold X0_mostOf_b32 at hm
    exact z_reti hx hb hr hlocks hP hS hm dX0_mostOf_32
  unfold X0_mostOf at hm
  refine lv_aload_n hx hb dX0_mostOf_0 rfl (lv_at hl 1 rfl) ?_
  refine zg_5_a hx hb hts i5 hown hK hP (hts _ (List.mem_of_getElem? (i := 1) rfl)) dX0_mostOf_1 ?_
  refine lv_iconst (v := (0 : Int32)) hx hb dX0_mostOf_4 (by decide) ?_
  obtain ⟨h_5, hm⟩ := hm
  refine z_aald hx hb hK hP zQ_13 h_5 dX0_mostOf_5 ?_
  refine lv_iload_n hx hb dX0_mostOf_6 rfl (lv_at hl 2 rfl) ?_
  obtain ⟨h_7, hm⟩ := hm
  refine z_iald hx hb hK hP (zRi_13 h_5) h_7 dX0_mostOf_7 ?_
  refine lv_topi (fun x4_8 ex4_8 => ?_)
  have hm := hm x4_8 ex4_8
  refine lv_istore (lv' := [(4, .int x4_8), (0, .ref (a 6)), (1, .ref (a 1)), (2, .int y2), (3, .int y3)]) hx hb dX0_mostOf_8 hl (by decide) rfl (fun ls hl => ?_)
  refine lv_iload hx hb dX0_mostOf_10 (lv_at hl 0 rfl) ?_
  refine lv_if_le (tgt := 31) hx hb dX0_mostOf_12 (by decide) (fun c_12 => ?_) (fun c_12 => ?_)
  · have hm := hm.1 c_12
    refine lv_iconst (v := (0 : Int32)) hx hb dX0_mostOf_31 (by decide) ?_
    exact b32 (0 : Int32) S _ _ _ hm hP hS (lv_sub hl [1, 2] rfl)
  · have hm := hm.2 c_12
    refine lv_aload_n hx hb dX0_mostOf_15 rfl (lv_at hl 2 rfl) ?_
    refine zg_5_high hx hb hts i5 hown hK hP (hts _ (List.mem_of_getElem? (i := 2) rfl)) dX0_mostOf_16 ?_
    refine lv_iload_n hx hb dX0_mostOf_19 rfl (lv_at hl 3 rfl) ?_
    obtain ⟨h_20, hm⟩ := hm
    refine z_iald hx hb hK hP zI_9 h_20 dX0_mostOf_20 ?_
    refine lv_iload_n hx hb dX0_mostOf_21 rfl (lv_at hl 4 rfl) ?_
    refine lv_iload hx hb dX0_mostOf_22 (lv_at hl 0 rfl) ?_
    obtain ⟨h_24, hm⟩ := hm
    refine lv_idiv hx hb dX0_mostOf_24 h_24 ?_
    refine va_mmin hx hb (hml.trans hl.1.symm) hown (hts _ (List.mem_of_getElem? (i := 3) rfl)) (hts _ (List.mem_of_getElem? (i := 4) rfl)) (hts _ (List.mem_of_getElem? (i := 5) rfl)) (hts _ (List.mem_of_getElem? (i := 6) rfl)) (Nat.le_of_ble_eq_true rfl) (Nat.le_of_ble_eq_true rfl) (Nat.zero_le _) (Nat.zero_le _) dX0_mostOf_25 ?_
    refine lv_goto (tgt := 32) hx hb dX0_mostOf_28 (by decide) ?_
    exact b32 (if (y3 / x4_8) < (S.1 9 (y2).toNatClampNeg) then (y3 / x4_8) else (S.1 9 (y2).toNatClampNeg)) S _ _ _ hm hP hS (lv_sub hl [1, 2] rfl)

abbrev rm_X0_putPack : Room := { frames := 1, cells := 0, slots := 0, locals := 21 }
def X0_putPack_b35 (n1 len1 : Nat) (S : ZS) (Q : ZS → Prop) : Prop :=
  Q S
def X0_putPack_B4 (n1 len1 : Nat) (x2 : Int32) (x3 : Int32) (x5 : Int32) (S : ZS) (Q : ZS → Prop) (k4 : Int32 × ZS → Prop) : Prop :=
  (x5 < x2 → X0_putPack_b35 n1 len1 S Q) ∧ (¬ x5 < x2 → vp_in x5 len1 ∧ vp_in (x5 - x2) len1 ∧ vp_in x5 len1 ∧ ∀ S_28 : ZS, S_28 = zu S n1 (x5).toNatClampNeg (if ((S.1 n1 ((x5 - x2)).toNatClampNeg) + x3) < (S.1 n1 (x5).toNatClampNeg) then ((S.1 n1 ((x5 - x2)).toNatClampNeg) + x3) else (S.1 n1 (x5).toNatClampNeg)) → ∀ x5_29 : Int32, x5_29 = x5 + (-1 : Int32) → k4 (x5_29, S_28))
def X0_putPack_L4 (n1 len1 : Nat) (x2 : Int32) (x3 : Int32) (Q : ZS → Prop) : (Int32 × ZS) → ((Int32 × ZS) → Prop) → Prop := fun st k4 => X0_putPack_B4 n1 len1 x2 x3 st.1 st.2 Q k4
def X0_putPack (n1 len1 : Nat) (y2 : Int32) (y3 : Int32) (y4 : Int32) (S : ZS) (Q : ZS → Prop) : Prop :=
  zl (X0_putPack_L4 n1 len1 y2 y3 Q) (y4, S)
set_option maxHeartbeats 4000000 in
set_option maxRecDepth 100000 in
theorem c_X0_putPack (l : Launch) (D : va_G) (k : Nat → ClassId) (a : Nat → Nat) (hj : zDj a) (n1 len1 : Nat) (hI1 : zI n1 len1) (y2 : Int32) (y3 : Int32) (y4 : Int32) (S : ZS) (Q : ZS → Prop) (hm : X0_putPack n1 len1 y2 y3 y4 S Q) (sz : Nat) : Met l yX0_putPack wsX0_putPack rm_X0_putPack (zPc D k a [.ref (a 6), .ref (a n1), .int y2, .int y3, .int y4] S sz) (va_Qv Q (zB D k a) (zA a sz)) 0 0 (zA a sz) := by
  refine Met.ofW (cc := cX0_putPack) (maxL := 6) (ret := none) (by decide) rfl ?_
  intro p e s m args below meth c s₁ B hml hv
  obtain ⟨rfl, hsz, hP, hK⟩ := hv
  have hx := B.exec
  have hb := B.bytes
  have hr := B.returns
  have hts := atoms_spec (ws := wsX0_putPack) B.pre
  have hown : s.vm.findClass RX0 = some m.cls := findClass_of_methodNamed B.named
  have hlocks := B.notSynchronized
  subst hsz
  have hS : va_S (zA a s.heap.size) s.heap s.heap [] := va_S.rf
  have hF : CallFix p m c cX0_putPack 6 s _ wsX0_putPack RX0 := ⟨hx, hb, hml, hown, hts⟩
  have hl := lv_entry ([.ref (a 6), .ref (a n1), .int y2, .int y3, .int y4]) (n := 6) (Nat.le_of_ble_eq_true rfl)
  rw [lg_entry_eq]
  generalize (lg_sl ([.ref (a 6), .ref (a n1), .int y2, .int y3, .int y4]) ++ List.replicate (6 - (lg_sl ([.ref (a 6), .ref (a n1), .int y2, .int y3, .int y4])).length) Slot.unset).toArray = ls at hl ⊢
  have hl : lv_has ls 6 [(0, .ref (a 6)), (1, .ref (a n1)), (2, .int y2), (3, .int y3), (4, .int y4)] := hl
  have b35 : ∀ (S : ZS) (H : Heap) (locs : List Loc) (ls : Array Slot), X0_putPack_b35 n1 len1 S Q → va_P D vwCl (zWS k a S) H → va_S (zA a s.heap.size) s.heap H locs → lv_has ls 6 [(0, .ref (a 6)), (1, .ref (a n1))] → zWv p l e (headSpec wsX0_putPack rm_X0_putPack).room s m ([.ref (a 6), .ref (a n1), .int y2, .int y3, .int y4] : List Value) below meth c D k a Q H locs (F0 m 35 ls []) := by
    intro S H locs ls hm hP hS hl
    unfold X0_putPack_b35 at hm
    exact z_retv hx hb hr hlocks hP hS hm dX0_putPack_35
  have L4 : ∀ (x2 : Int32) (x3 : Int32) (n : Nat) (x5 : Int32) (S : ZS) (H : Heap) (locs : List Loc) (ls : Array Slot), zn (X0_putPack_L4 n1 len1 x2 x3 Q) n (x5, S) → va_P D vwCl (zWS k a S) H → va_S (zA a s.heap.size) s.heap H locs → lv_has ls 6 [(0, .ref (a 6)), (1, .ref (a n1)), (2, .int x2), (3, .int x3), (5, .int x5)] → zWv p l e (headSpec wsX0_putPack rm_X0_putPack).room s m ([.ref (a 6), .ref (a n1), .int y2, .int y3, .int y4] : List Value) below meth c D k a Q H locs (F0 m 4 ls []) := by
    intro x2 x3 n
    induction n with
    | zero =>
      intro x5 S H locs ls hm
      exact hm.elim
    | succ n ih4 =>
      intro x5 S H locs ls hm hP hS hl
      have hm : X0_putPack_B4 n1 len1 x2 x3 x5 S Q (zn (X0_putPack_L4 n1 len1 x2 x3 Q) n) := hm
      generalize zn (X0_putPack_L4 n1 len1 x2 x3 Q) n = k4 at hm ih4
      unfold X0_putPack_B4 at hm
      refine lv_iload hx hb dX0_putPack_4 (lv_at hl 4 rfl) ?_
      refine lv_iload_n hx hb dX0_putPack_6 rfl (lv_at hl 2 rfl) ?_
      refine lv_icmp_lt (tgt := 35) hx hb dX0_putPack_7 (by decide) (fun c_7 => ?_) (fun c_7 => ?_)
      · have hm := hm.1 c_7
        exact b35  S _ _ _ hm hP hS (lv_sub hl [0, 1] rfl)
      · have hm := hm.2 c_7
        refine lv_aload_n hx hb dX0_putPack_10 rfl (lv_at hl 1 rfl) ?_
        refine lv_iload hx hb dX0_putPack_11 (lv_at hl 4 rfl) ?_
        refine lv_aload_n hx hb dX0_putPack_13 rfl (lv_at hl 1 rfl) ?_
        refine lv_iload hx hb dX0_putPack_14 (lv_at hl 4 rfl) ?_
        obtain ⟨h_16, hm⟩ := hm
        refine z_iald hx hb hK hP hI1 h_16 dX0_putPack_16 ?_
        refine lv_aload_n hx hb dX0_putPack_17 rfl (lv_at hl 1 rfl) ?_
        refine lv_iload hx hb dX0_putPack_18 (lv_at hl 4 rfl) ?_
        refine lv_iload_n hx hb dX0_putPack_20 rfl (lv_at hl 2 rfl) ?_
        refine lv_isub hx hb dX0_putPack_21 ?_
        obtain ⟨h_22, hm⟩ := hm
        refine z_iald hx hb hK hP hI1 h_22 dX0_putPack_22 ?_
        refine lv_iload_n hx hb dX0_putPack_23 rfl (lv_at hl 3 rfl) ?_
        refine lv_iadd hx hb dX0_putPack_24 ?_
        refine va_mmin hx hb (hml.trans hl.1.symm) hown (hts _ (List.mem_of_getElem? (i := 1) rfl)) (hts _ (List.mem_of_getElem? (i := 2) rfl)) (hts _ (List.mem_of_getElem? (i := 3) rfl)) (hts _ (List.mem_of_getElem? (i := 4) rfl)) (Nat.le_of_ble_eq_true rfl) (Nat.le_of_ble_eq_true rfl) (Nat.zero_le _) (Nat.zero_le _) dX0_putPack_25 ?_
        obtain ⟨h_28, hm⟩ := hm
        refine z_iast hx hb hj hK hP hS hI1 h_28 dX0_putPack_28 (fun H locs hP hS => ?_)
        obtain ⟨S_28, eS_28⟩ : ∃ z : ZS, z = zu S n1 (x5).toNatClampNeg (if ((S.1 n1 ((x5 - x2)).toNatClampNeg) + x3) < (S.1 n1 (x5).toNatClampNeg) then ((S.1 n1 ((x5 - x2)).toNatClampNeg) + x3) else (S.1 n1 (x5).toNatClampNeg)) := ⟨_, rfl⟩
        rw [← eS_28] at hP
        have hm := hm S_28 eS_28
        obtain ⟨x5_29, ex5_29⟩ : ∃ y : Int32, y = x5 + (-1 : Int32) := ⟨_, rfl⟩
        have hm := hm x5_29 ex5_29
        refine lv_iinc (v := x5_29) (lv' := [(5, .int x5_29), (0, .ref (a 6)), (1, .ref (a n1)), (2, .int x2), (3, .int x3)]) hx hb dX0_putPack_29 hl (k := 4) rfl (by rw [ex5_29]; rfl) (by decide) rfl (fun ls hl => ?_)
        refine lv_goto (tgt := 4) hx hb dX0_putPack_32 (by decide) ?_
        exact ih4 x5_29 S_28 _ _ _ hm hP hS (lv_sub hl [1, 2, 3, 4, 0] rfl)
  unfold X0_putPack at hm
  refine lv_iload hx hb dX0_putPack_0 (lv_at hl 4 rfl) ?_
  refine lv_istore (lv' := [(5, .int y4), (0, .ref (a 6)), (1, .ref (a n1)), (2, .int y2), (3, .int y3), (4, .int y4)]) hx hb dX0_putPack_2 hl (by decide) rfl (fun ls hl => ?_)
  obtain ⟨n4, hm⟩ := hm
  exact L4 y2 y3 n4 y4 S _ _ _ hm hP hS (lv_sub hl [1, 2, 3, 4, 0] rfl)

abbrev rm_X0_putInPacks : Room := { frames := 2, cells := 0, slots := 0, locals := 46 }
def X0_putInPacks_b81 (S : ZS) (Q : ZS → Prop) : Prop :=
  Q S
def X0_putInPacks_B12 (x2 : Int32) (x3 : Int32) (x4 : Int32) (x5 : Int32) (S : ZS) (Q : ZS → Prop) (k12 : Int32 × Int32 × ZS → Prop) : Prop :=
  (x4 ≤ 0 → X0_putInPacks_b81 S Q) ∧ (¬ x4 ≤ 0 → ((300 : Int32) < x5 → X0_putInPacks_b81 S Q) ∧ (¬ (300 : Int32) < x5 → ∀ x6_32 : Int32, x6_32 = (if x4 < x5 then x4 else x5) → vp_in x2 11 ∧ vp_in (0 : Int32) 8 ∧ vp_in x2 10 ∧ vp_in x2 10 ∧ X0_putPack (50 + (x2).toNatClampNeg) 301 (x6_32 * (S.1 (14 + ((0 : Int32)).toNatClampNeg) (x2).toNatClampNeg)) (x6_32 * (S.1 10 (x2).toNatClampNeg)) x3 S (fun S_62 => ∀ x4_70 : Int32, x4_70 = (x4 - x6_32) → ∀ x5_76 : Int32, x5_76 = (x5 * (2 : Int32)) → k12 (x4_70, x5_76, S_62))))
def X0_putInPacks_L12 (x2 : Int32) (x3 : Int32) (Q : ZS → Prop) : (Int32 × Int32 × ZS) → ((Int32 × Int32 × ZS) → Prop) → Prop := fun st k12 => X0_putInPacks_B12 x2 x3 st.1 st.2.1 st.2.2 Q k12
def X0_putInPacks (y2 : Int32) (y3 : Int32) (S : ZS) (Q : ZS → Prop) : Prop :=
  X0_mostOf y2 y3 S (fun r_4 S_4 => zl (X0_putInPacks_L12 y2 y3 Q) (r_4, (1 : Int32), S_4))
set_option maxHeartbeats 4000000 in
set_option maxRecDepth 100000 in
theorem c_X0_putInPacks (l : Launch) (D : va_G) (k : Nat → ClassId) (a : Nat → Nat) (hj : zDj a) (y2 : Int32) (y3 : Int32) (S : ZS) (Q : ZS → Prop) (hm : X0_putInPacks y2 y3 S Q) (sz : Nat) : Met l yX0_putInPacks wsX0_putInPacks rm_X0_putInPacks (zPc D k a [.ref (a 6), .ref (a 1), .int y2, .int y3] S sz) (va_Qv Q (zB D k a) (zA a sz)) 0 0 (zA a sz) := by
  refine Met.ofW (cc := cX0_putInPacks) (maxL := 7) (ret := none) (by decide) rfl ?_
  intro p e s m args below meth c s₁ B hml hv
  obtain ⟨rfl, hsz, hP, hK⟩ := hv
  have hx := B.exec
  have hb := B.bytes
  have hr := B.returns
  have hts := atoms_spec (ws := wsX0_putInPacks) B.pre
  have hown : s.vm.findClass RX0 = some m.cls := findClass_of_methodNamed B.named
  have hlocks := B.notSynchronized
  subst hsz
  have hS : va_S (zA a s.heap.size) s.heap s.heap [] := va_S.rf
  have hF : CallFix p m c cX0_putInPacks 7 s _ wsX0_putInPacks RX0 := ⟨hx, hb, hml, hown, hts⟩
  have i0 : ∀ w ∈ wsX00, w ∈ wsX0_putInPacks := fun _ h => (List.mem_cons_of_mem _ (List.mem_append_left _ (List.mem_append_right _ h)))
  have i5 : ∀ w ∈ wsX50, w ∈ wsX0_putInPacks := fun _ h => (List.mem_cons_of_mem _ (List.mem_append_right _ h))
  have hl := lv_entry ([.ref (a 6), .ref (a 1), .int y2, .int y3]) (n := 7) (Nat.le_of_ble_eq_true rfl)
  rw [lg_entry_eq]
  generalize (lg_sl ([.ref (a 6), .ref (a 1), .int y2, .int y3]) ++ List.replicate (7 - (lg_sl ([.ref (a 6), .ref (a 1), .int y2, .int y3])).length) Slot.unset).toArray = ls at hl ⊢
  have hl : lv_has ls 7 [(0, .ref (a 6)), (1, .ref (a 1)), (2, .int y2), (3, .int y3)] := hl
  have b81 : ∀ (S : ZS) (H : Heap) (locs : List Loc) (ls : Array Slot), X0_putInPacks_b81 S Q → va_P D vwCl (zWS k a S) H → va_S (zA a s.heap.size) s.heap H locs → lv_has ls 7 [(0, .ref (a 6)), (1, .ref (a 1))] → zWv p l e (headSpec wsX0_putInPacks rm_X0_putInPacks).room s m ([.ref (a 6), .ref (a 1), .int y2, .int y3] : List Value) below meth c D k a Q H locs (F0 m 81 ls []) := by
    intro S H locs ls hm hP hS hl
    unfold X0_putInPacks_b81 at hm
    exact z_retv hx hb hr hlocks hP hS hm dX0_putInPacks_81
  have L12 : ∀ (x2 : Int32) (x3 : Int32) (n : Nat) (x4 : Int32) (x5 : Int32) (S : ZS) (H : Heap) (locs : List Loc) (ls : Array Slot), zn (X0_putInPacks_L12 x2 x3 Q) n (x4, x5, S) → va_P D vwCl (zWS k a S) H → va_S (zA a s.heap.size) s.heap H locs → lv_has ls 7 [(0, .ref (a 6)), (1, .ref (a 1)), (2, .int x2), (3, .int x3), (4, .int x4), (5, .int x5)] → zWv p l e (headSpec wsX0_putInPacks rm_X0_putInPacks).room s m ([.ref (a 6), .ref (a 1), .int y2, .int y3] : List Value) below meth c D k a Q H locs (F0 m 12 ls []) := by
    intro x2 x3 n
    induction n with
    | zero =>
      intro x4 x5 S H locs ls hm
      exact hm.elim
    | succ n ih12 =>
      intro x4 x5 S H locs ls hm hP hS hl
      have hm : X0_putInPacks_B12 x2 x3 x4 x5 S Q (zn (X0_putInPacks_L12 x2 x3 Q) n) := hm
      generalize zn (X0_putInPacks_L12 x2 x3 Q) n = k12 at hm ih12
      unfold X0_putInPacks_B12 at hm
      refine lv_iload hx hb dX0_putInPacks_12 (lv_at hl 4 rfl) ?_
      refine lv_if_le (tgt := 81) hx hb dX0_putInPacks_14 (by decide) (fun c_14 => ?_) (fun c_14 => ?_)
      · have hm := hm.1 c_14
        exact b81  S _ _ _ hm hP hS (lv_sub hl [0, 1] rfl)
      · have hm := hm.2 c_14
        refine lv_iload hx hb dX0_putInPacks_17 (lv_at hl 5 rfl) ?_
        refine lv_sipush (v := (300 : Int32)) hx hb dX0_putInPacks_19 (by decide) ?_
        refine lv_icmp_gt (tgt := 81) hx hb dX0_putInPacks_22 (by decide) (fun c_22 => ?_) (fun c_22 => ?_)
        · have hm := hm.1 c_22
          exact b81  S _ _ _ hm hP hS (lv_sub hl [0, 1] rfl)
        · have hm := hm.2 c_22
          refine lv_iload hx hb dX0_putInPacks_25 (lv_at hl 5 rfl) ?_
          refine lv_iload hx hb dX0_putInPacks_27 (lv_at hl 4 rfl) ?_
          refine va_mmin hx hb (hml.trans hl.1.symm) hown (hts _ (List.mem_of_getElem? (i := 1) rfl)) (hts _ (List.mem_of_getElem? (i := 2) rfl)) (hts _ (List.mem_of_getElem? (i := 3) rfl)) (hts _ (List.mem_of_getElem? (i := 4) rfl)) (Nat.le_of_ble_eq_true rfl) (Nat.le_of_ble_eq_true rfl) (Nat.zero_le _) (Nat.zero_le _) dX0_putInPacks_29 ?_
          refine lv_topi (fun x6_32 ex6_32 => ?_)
          have hm := hm x6_32 ex6_32
          refine lv_istore (lv' := [(6, .int x6_32), (0, .ref (a 6)), (1, .ref (a 1)), (2, .int x2), (3, .int x3), (4, .int x4), (5, .int x5)]) hx hb dX0_putInPacks_32 hl (by decide) rfl (fun ls hl => ?_)
          refine lv_aload_n hx hb dX0_putInPacks_34 rfl (lv_at hl 1 rfl) ?_
          refine lv_aload_n hx hb dX0_putInPacks_35 rfl (lv_at hl 1 rfl) ?_
          refine zg_0_least hx hb hts i0 hown hK hP (hts _ (List.mem_of_getElem? (i := 5) rfl)) dX0_putInPacks_36 ?_
          refine lv_iload_n hx hb dX0_putInPacks_39 rfl (lv_at hl 3 rfl) ?_
          obtain ⟨h_40, hm⟩ := hm
          refine z_aald hx hb hK hP zQ_49 h_40 dX0_putInPacks_40 ?_
          refine lv_iload hx hb dX0_putInPacks_41 (lv_at hl 0 rfl) ?_
          refine lv_aload_n hx hb dX0_putInPacks_43 rfl (lv_at hl 2 rfl) ?_
          refine zg_5_a hx hb hts i5 hown hK hP (hts _ (List.mem_of_getElem? (i := 6) rfl)) dX0_putInPacks_44 ?_
          refine lv_iconst (v := (0 : Int32)) hx hb dX0_putInPacks_47 (by decide) ?_
          obtain ⟨h_48, hm⟩ := hm
          refine z_aald hx hb hK hP zQ_13 h_48 dX0_putInPacks_48 ?_
          refine lv_iload_n hx hb dX0_putInPacks_49 rfl (lv_at hl 3 rfl) ?_
          obtain ⟨h_50, hm⟩ := hm
          refine z_iald hx hb hK hP (zRi_13 h_48) h_50 dX0_putInPacks_50 ?_
          refine lv_imul hx hb dX0_putInPacks_51 ?_
          refine lv_iload hx hb dX0_putInPacks_52 (lv_at hl 0 rfl) ?_
          refine lv_aload_n hx hb dX0_putInPacks_54 rfl (lv_at hl 2 rfl) ?_
          refine zg_5_cost hx hb hts i5 hown hK hP (hts _ (List.mem_of_getElem? (i := 7) rfl)) dX0_putInPacks_55 ?_
          refine lv_iload_n hx hb dX0_putInPacks_58 rfl (lv_at hl 3 rfl) ?_
          obtain ⟨h_59, hm⟩ := hm
          refine z_iald hx hb hK hP zI_10 h_59 dX0_putInPacks_59 ?_
          refine lv_imul hx hb dX0_putInPacks_60 ?_
          refine lv_iload_n hx hb dX0_putInPacks_61 rfl (lv_at hl 4 rfl) ?_
          refine z_cVv (As := [.ref (a (50 + (x2).toNatClampNeg)), .int (x6_32 * (S.1 (14 + ((0 : Int32)).toNatClampNeg) (x2).toNatClampNeg)), .int (x6_32 * (S.1 10 (x2).toNatClampNeg)), .int x3]) (rest := []) hF hK hP hS zO_6 rfl rfl (c_X0_putPack l D k a hj (50 + (x2).toNatClampNeg) 301 (zRi_49 h_40) (x6_32 * (S.1 (14 + ((0 : Int32)).toNatClampNeg) (x2).toNatClampNeg)) (x6_32 * (S.1 10 (x2).toNatClampNeg)) x3 S _ hm _) (cwV 4 hts gX0_putInPacks_X0_putPack rfl rfl rfl (by decide +kernel) ⟨Nat.le_of_ble_eq_true rfl, Nat.le_of_ble_eq_true rfl⟩) rfl hl.1 rfl (Nat.le_of_ble_eq_true rfl) dX0_putInPacks_62 ⟨Nat.zero_le _, Nat.zero_le _⟩ (fun S_62 H locs hm hP hS => ?_)
          refine lv_iload hx hb dX0_putInPacks_65 (lv_at hl 5 rfl) ?_
          refine lv_iload hx hb dX0_putInPacks_67 (lv_at hl 0 rfl) ?_
          refine lv_isub hx hb dX0_putInPacks_69 ?_
          refine lv_topi (fun x4_70 ex4_70 => ?_)
          have hm := hm x4_70 ex4_70
          refine lv_istore (lv' := [(4, .int x4_70), (6, .int x6_32), (0, .ref (a 6)), (1, .ref (a 1)), (2, .int x2), (3, .int x3), (5, .int x5)]) hx hb dX0_putInPacks_70 hl (by decide) rfl (fun ls hl => ?_)
          refine lv_iload hx hb dX0_putInPacks_72 (lv_at hl 6 rfl) ?_
          refine lv_iconst (v := (2 : Int32)) hx hb dX0_putInPacks_74 (by decide) ?_
          refine lv_imul hx hb dX0_putInPacks_75 ?_
          refine lv_topi (fun x5_76 ex5_76 => ?_)
          have hm := hm x5_76 ex5_76
          refine lv_istore (lv' := [(5, .int x5_76), (4, .int x4_70), (6, .int x6_32), (0, .ref (a 6)), (1, .ref (a 1)), (2, .int x2), (3, .int x3)]) hx hb dX0_putInPacks_76 hl (by decide) rfl (fun ls hl => ?_)
          refine lv_goto (tgt := 12) hx hb dX0_putInPacks_78 (by decide) ?_
          exact ih12 x4_70 x5_76 S_62 _ _ _ hm hP hS (lv_sub hl [3, 4, 5, 6, 1, 0] rfl)
  unfold X0_putInPacks at hm
  refine lv_aload_n hx hb dX0_putInPacks_0 rfl (lv_at hl 0 rfl) ?_
  refine lv_aload_n hx hb dX0_putInPacks_1 rfl (lv_at hl 1 rfl) ?_
  refine lv_iload_n hx hb dX0_putInPacks_2 rfl (lv_at hl 2 rfl) ?_
  refine lv_iload_n hx hb dX0_putInPacks_3 rfl (lv_at hl 3 rfl) ?_
  refine z_cVi (As := [.ref (a 1), .int y2, .int y3]) (rest := []) hF hK hP hS zO_6 rfl rfl (c_X0_mostOf l D k a hj y2 y3 S _ hm _) (cwV 3 hts gX0_putInPacks_X0_mostOf rfl rfl rfl (by decide +kernel) ⟨Nat.le_of_ble_eq_true rfl, Nat.le_of_ble_eq_true rfl⟩) rfl hl.1 rfl (Nat.le_of_ble_eq_true rfl) dX0_putInPacks_4 ⟨Nat.zero_le _, Nat.zero_le _⟩ (fun r_4 S_4 H locs hm hP hS => ?_)
  refine lv_istore (lv' := [(4, .int r_4), (0, .ref (a 6)), (1, .ref (a 1)), (2, .int y2), (3, .int y3)]) hx hb dX0_putInPacks_7 hl (by decide) rfl (fun ls hl => ?_)
  refine lv_iconst (v := (1 : Int32)) hx hb dX0_putInPacks_9 (by decide) ?_
  refine lv_istore (lv' := [(5, .int (1 : Int32)), (4, .int r_4), (0, .ref (a 6)), (1, .ref (a 1)), (2, .int y2), (3, .int y3)]) hx hb dX0_putInPacks_10 hl (by decide) rfl (fun ls hl => ?_)
  obtain ⟨n12, hm⟩ := hm
  exact L12 y2 y3 n12 r_4 (1 : Int32) S_4 _ _ _ hm hP hS (lv_sub hl [2, 3, 4, 5, 1, 0] rfl)

abbrev rm_X0_fewest : Room := { frames := 2, cells := 0, slots := 0, locals := 45 }
def X0_fewest_b76 (x4 : Int32) (S : ZS) (Q : Int32 → ZS → Prop) : Prop :=
  Q x4 S
def X0_fewest_b54 (x6 : Int32) (S : ZS) (Q : Int32 → ZS → Prop) : Prop :=
  Q x6 S
def X0_fewest_B15 (x2 : Int32) (x3 : Int32) (x4 : Int32) (x5 : Int32) (x6 : Int32) (S : ZS) (Q : Int32 → ZS → Prop) (k15 : Int32 × Int32 × ZS → Prop) : Prop :=
  (x4 ≤ x6 → X0_fewest_b76 x4 S Q) ∧ (¬ x4 ≤ x6 → vp_in x2 10 ∧ vp_in (x2 + (1 : Int32)) 11 ∧ vp_in x5 301 ∧ vp_in x2 11 ∧ vp_in x3 301 ∧ (((x6 * (S.1 10 (x2).toNatClampNeg)) + (S.1 (50 + ((x2 + (1 : Int32))).toNatClampNeg) (x5).toNatClampNeg)) = (S.1 (50 + (x2).toNatClampNeg) (x3).toNatClampNeg) → X0_fewest_b54 x6 S Q) ∧ (¬ ((x6 * (S.1 10 (x2).toNatClampNeg)) + (S.1 (50 + ((x2 + (1 : Int32))).toNatClampNeg) (x5).toNatClampNeg)) = (S.1 (50 + (x2).toNatClampNeg) (x3).toNatClampNeg) → vp_in (0 : Int32) 8 ∧ vp_in x2 10 ∧ ∀ x5_68 : Int32, x5_68 = (x5 - (S.1 (14 + ((0 : Int32)).toNatClampNeg) (x2).toNatClampNeg)) → ∀ x6_70 : Int32, x6_70 = x6 + (1 : Int32) → k15 (x5_68, x6_70, S)))
def X0_fewest_L15 (x2 : Int32) (x3 : Int32) (x4 : Int32) (Q : Int32 → ZS → Prop) : (Int32 × Int32 × ZS) → ((Int32 × Int32 × ZS) → Prop) → Prop := fun st k15 => X0_fewest_B15 x2 x3 x4 st.1 st.2.1 st.2.2 Q k15
def X0_fewest (y2 : Int32) (y3 : Int32) (S : ZS) (Q : Int32 → ZS → Prop) : Prop :=
  X0_mostOf y2 y3 S (fun r_4 S_4 => zl (X0_fewest_L15 y2 y3 r_4 Q) (y3, (0 : Int32), S_4))
set_option maxHeartbeats 4000000 in
set_option maxRecDepth 100000 in
theorem c_X0_fewest (l : Launch) (D : va_G) (k : Nat → ClassId) (a : Nat → Nat) (hj : zDj a) (y2 : Int32) (y3 : Int32) (S : ZS) (Q : Int32 → ZS → Prop) (hm : X0_fewest y2 y3 S Q) (sz : Nat) : Met l yX0_fewest wsX0_fewest rm_X0_fewest (zPc D k a [.ref (a 6), .ref (a 1), .int y2, .int y3] S sz) (va_Qi Q (zB D k a) (zA a sz)) 0 0 (zA a sz) := by
  refine Met.ofW (cc := cX0_fewest) (maxL := 7) (ret := (some .int)) (by decide) rfl ?_
  intro p e s m args below meth c s₁ B hml hv
  obtain ⟨rfl, hsz, hP, hK⟩ := hv
  have hx := B.exec
  have hb := B.bytes
  have hr := B.returns
  have hts := atoms_spec (ws := wsX0_fewest) B.pre
  have hown : s.vm.findClass RX0 = some m.cls := findClass_of_methodNamed B.named
  have hlocks := B.notSynchronized
  subst hsz
  have hS : va_S (zA a s.heap.size) s.heap s.heap [] := va_S.rf
  have hF : CallFix p m c cX0_fewest 7 s _ wsX0_fewest RX0 := ⟨hx, hb, hml, hown, hts⟩
  have i0 : ∀ w ∈ wsX00, w ∈ wsX0_fewest := fun _ h => (List.mem_cons_of_mem _ (List.mem_append_right _ h))
  have i5 : ∀ w ∈ wsX50, w ∈ wsX0_fewest := fun _ h => (List.mem_cons_of_mem _ (List.mem_append_left _ (List.mem_append_right _ h)))
  have hl := lv_entry ([.ref (a 6), .ref (a 1), .int y2, .int y3]) (n := 7) (Nat.le_of_ble_eq_true rfl)
  rw [lg_entry_eq]
  generalize (lg_sl ([.ref (a 6), .ref (a 1), .int y2, .int y3]) ++ List.replicate (7 - (lg_sl ([.ref (a 6), .ref (a 1), .int y2, .int y3])).length) Slot.unset).toArray = ls at hl ⊢
  have hl : lv_has ls 7 [(0, .ref (a 6)), (1, .ref (a 1)), (2, .int y2), (3, .int y3)] := hl
  have b76 : ∀ (x4 : Int32) (S : ZS) (H : Heap) (locs : List Loc) (ls : Array Slot), X0_fewest_b76 x4 S Q → va_P D vwCl (zWS k a S) H → va_S (zA a s.heap.size) s.heap H locs → lv_has ls 7 [(0, .ref (a 6)), (1, .ref (a 1)), (4, .int x4)] → zWi p l e (headSpec wsX0_fewest rm_X0_fewest).room s m ([.ref (a 6), .ref (a 1), .int y2, .int y3] : List Value) below meth c D k a Q H locs (F0 m 76 ls []) := by
    intro x4 S H locs ls hm hP hS hl
    unfold X0_fewest_b76 at hm
    refine lv_iload hx hb dX0_fewest_76 (lv_at hl 2 rfl) ?_
    exact z_reti hx hb hr hlocks hP hS hm dX0_fewest_78
  have b54 : ∀ (x6 : Int32) (S : ZS) (H : Heap) (locs : List Loc) (ls : Array Slot), X0_fewest_b54 x6 S Q → va_P D vwCl (zWS k a S) H → va_S (zA a s.heap.size) s.heap H locs → lv_has ls 7 [(0, .ref (a 6)), (1, .ref (a 1)), (6, .int x6)] → zWi p l e (headSpec wsX0_fewest rm_X0_fewest).room s m ([.ref (a 6), .ref (a 1), .int y2, .int y3] : List Value) below meth c D k a Q H locs (F0 m 54 ls []) := by
    intro x6 S H locs ls hm hP hS hl
    unfold X0_fewest_b54 at hm
    refine lv_iload hx hb dX0_fewest_54 (lv_at hl 2 rfl) ?_
    exact z_reti hx hb hr hlocks hP hS hm dX0_fewest_56
  have L15 : ∀ (x2 : Int32) (x3 : Int32) (x4 : Int32) (n : Nat) (x5 : Int32) (x6 : Int32) (S : ZS) (H : Heap) (locs : List Loc) (ls : Array Slot), zn (X0_fewest_L15 x2 x3 x4 Q) n (x5, x6, S) → va_P D vwCl (zWS k a S) H → va_S (zA a s.heap.size) s.heap H locs → lv_has ls 7 [(0, .ref (a 6)), (1, .ref (a 1)), (2, .int x2), (3, .int x3), (4, .int x4), (5, .int x5), (6, .int x6)] → zWi p l e (headSpec wsX0_fewest rm_X0_fewest).room s m ([.ref (a 6), .ref (a 1), .int y2, .int y3] : List Value) below meth c D k a Q H locs (F0 m 15 ls []) := by
    intro x2 x3 x4 n
    induction n with
    | zero =>
      intro x5 x6 S H locs ls hm
      exact hm.elim
    | succ n ih15 =>
      intro x5 x6 S H locs ls hm hP hS hl
      have hm : X0_fewest_B15 x2 x3 x4 x5 x6 S Q (zn (X0_fewest_L15 x2 x3 x4 Q) n) := hm
      generalize zn (X0_fewest_L15 x2 x3 x4 Q) n = k15 at hm ih15
      unfold X0_fewest_B15 at hm
      refine lv_iload hx hb dX0_fewest_15 (lv_at hl 6 rfl) ?_
      refine lv_iload hx hb dX0_fewest_17 (lv_at hl 4 rfl) ?_
      refine lv_icmp_ge (tgt := 76) hx hb dX0_fewest_19 (by decide) (fun c_19 => ?_) (fun c_19 => ?_)
      · have hm := hm.1 c_19
        exact b76 x4 S _ _ _ hm hP hS (lv_sub hl [0, 1, 4] rfl)
      · have hm := hm.2 c_19
        refine lv_iload hx hb dX0_fewest_22 (lv_at hl 6 rfl) ?_
        refine lv_aload_n hx hb dX0_fewest_24 rfl (lv_at hl 1 rfl) ?_
        refine zg_5_cost hx hb hts i5 hown hK hP (hts _ (List.mem_of_getElem? (i := 1) rfl)) dX0_fewest_25 ?_
        refine lv_iload_n hx hb dX0_fewest_28 rfl (lv_at hl 2 rfl) ?_
        obtain ⟨h_29, hm⟩ := hm
        refine z_iald hx hb hK hP zI_10 h_29 dX0_fewest_29 ?_
        refine lv_imul hx hb dX0_fewest_30 ?_
        refine lv_aload_n hx hb dX0_fewest_31 rfl (lv_at hl 0 rfl) ?_
        refine zg_0_least hx hb hts i0 hown hK hP (hts _ (List.mem_of_getElem? (i := 2) rfl)) dX0_fewest_32 ?_
        refine lv_iload_n hx hb dX0_fewest_35 rfl (lv_at hl 2 rfl) ?_
        refine lv_iconst (v := (1 : Int32)) hx hb dX0_fewest_36 (by decide) ?_
        refine lv_iadd hx hb dX0_fewest_37 ?_
        obtain ⟨h_38, hm⟩ := hm
        refine z_aald hx hb hK hP zQ_49 h_38 dX0_fewest_38 ?_
        refine lv_iload hx hb dX0_fewest_39 (lv_at hl 5 rfl) ?_
        obtain ⟨h_41, hm⟩ := hm
        refine z_iald hx hb hK hP (zRi_49 h_38) h_41 dX0_fewest_41 ?_
        refine lv_iadd hx hb dX0_fewest_42 ?_
        refine lv_aload_n hx hb dX0_fewest_43 rfl (lv_at hl 0 rfl) ?_
        refine zg_0_least hx hb hts i0 hown hK hP (hts _ (List.mem_of_getElem? (i := 2) rfl)) dX0_fewest_44 ?_
        refine lv_iload_n hx hb dX0_fewest_47 rfl (lv_at hl 2 rfl) ?_
        obtain ⟨h_48, hm⟩ := hm
        refine z_aald hx hb hK hP zQ_49 h_48 dX0_fewest_48 ?_
        refine lv_iload_n hx hb dX0_fewest_49 rfl (lv_at hl 3 rfl) ?_
        obtain ⟨h_50, hm⟩ := hm
        refine z_iald hx hb hK hP (zRi_49 h_48) h_50 dX0_fewest_50 ?_
        refine lv_icmp_ne (tgt := 57) hx hb dX0_fewest_51 (by decide) (fun c_51 => ?_) (fun c_51 => ?_)
        · have hm := hm.2 c_51
          refine lv_iload hx hb dX0_fewest_57 (lv_at hl 5 rfl) ?_
          refine lv_aload_n hx hb dX0_fewest_59 rfl (lv_at hl 1 rfl) ?_
          refine zg_5_a hx hb hts i5 hown hK hP (hts _ (List.mem_of_getElem? (i := 3) rfl)) dX0_fewest_60 ?_
          refine lv_iconst (v := (0 : Int32)) hx hb dX0_fewest_63 (by decide) ?_
          obtain ⟨h_64, hm⟩ := hm
          refine z_aald hx hb hK hP zQ_13 h_64 dX0_fewest_64 ?_
          refine lv_iload_n hx hb dX0_fewest_65 rfl (lv_at hl 2 rfl) ?_
          obtain ⟨h_66, hm⟩ := hm
          refine z_iald hx hb hK hP (zRi_13 h_64) h_66 dX0_fewest_66 ?_
          refine lv_isub hx hb dX0_fewest_67 ?_
          refine lv_topi (fun x5_68 ex5_68 => ?_)
          have hm := hm x5_68 ex5_68
          refine lv_istore (lv' := [(5, .int x5_68), (0, .ref (a 6)), (1, .ref (a 1)), (2, .int x2), (3, .int x3), (4, .int x4), (6, .int x6)]) hx hb dX0_fewest_68 hl (by decide) rfl (fun ls hl => ?_)
          obtain ⟨x6_70, ex6_70⟩ : ∃ y : Int32, y = x6 + (1 : Int32) := ⟨_, rfl⟩
          have hm := hm x6_70 ex6_70
          refine lv_iinc (v := x6_70) (lv' := [(6, .int x6_70), (5, .int x5_68), (0, .ref (a 6)), (1, .ref (a 1)), (2, .int x2), (3, .int x3), (4, .int x4)]) hx hb dX0_fewest_70 hl (k := 6) rfl (by rw [ex6_70]; rfl) (by decide) rfl (fun ls hl => ?_)
          refine lv_goto (tgt := 15) hx hb dX0_fewest_73 (by decide) ?_
          exact ih15 x5_68 x6_70 S _ _ _ hm hP hS (lv_sub hl [2, 3, 4, 5, 6, 1, 0] rfl)
        · have hm := hm.1 c_51
          exact b54 x6 S _ _ _ hm hP hS (lv_sub hl [0, 1, 6] rfl)
  unfold X0_fewest at hm
  refine lv_aload_n hx hb dX0_fewest_0 rfl (lv_at hl 0 rfl) ?_
  refine lv_aload_n hx hb dX0_fewest_1 rfl (lv_at hl 1 rfl) ?_
  refine lv_iload_n hx hb dX0_fewest_2 rfl (lv_at hl 2 rfl) ?_
  refine lv_iload_n hx hb dX0_fewest_3 rfl (lv_at hl 3 rfl) ?_
  refine z_cVi (As := [.ref (a 1), .int y2, .int y3]) (rest := []) hF hK hP hS zO_6 rfl rfl (c_X0_mostOf l D k a hj y2 y3 S _ hm _) (cwV 3 hts gX0_fewest_X0_mostOf rfl rfl rfl (by decide +kernel) ⟨Nat.le_of_ble_eq_true rfl, Nat.le_of_ble_eq_true rfl⟩) rfl hl.1 rfl (Nat.le_of_ble_eq_true rfl) dX0_fewest_4 ⟨Nat.zero_le _, Nat.zero_le _⟩ (fun r_4 S_4 H locs hm hP hS => ?_)
  refine lv_istore (lv' := [(4, .int r_4), (0, .ref (a 6)), (1, .ref (a 1)), (2, .int y2), (3, .int y3)]) hx hb dX0_fewest_7 hl (by decide) rfl (fun ls hl => ?_)
  refine lv_iload_n hx hb dX0_fewest_9 rfl (lv_at hl 4 rfl) ?_
  refine lv_istore (lv' := [(5, .int y3), (4, .int r_4), (0, .ref (a 6)), (1, .ref (a 1)), (2, .int y2), (3, .int y3)]) hx hb dX0_fewest_10 hl (by decide) rfl (fun ls hl => ?_)
  refine lv_iconst (v := (0 : Int32)) hx hb dX0_fewest_12 (by decide) ?_
  refine lv_istore (lv' := [(6, .int (0 : Int32)), (5, .int y3), (4, .int r_4), (0, .ref (a 6)), (1, .ref (a 1)), (2, .int y2), (3, .int y3)]) hx hb dX0_fewest_13 hl (by decide) rfl (fun ls hl => ?_)
  obtain ⟨n15, hm⟩ := hm
  exact L15 y2 y3 r_4 n15 y3 (0 : Int32) S_4 _ _ _ hm hP hS (lv_sub hl [3, 4, 5, 6, 2, 1, 0] rfl)

abbrev rm_X0_fill : Room := { frames := 3, cells := 0, slots := 0, locals := 72 }
def X0_fill_b128 (S : ZS) (Q : ZS → Prop) : Prop :=
  Q S
def X0_fill_B84 (x3 : Int32) (x4 : Int32) (S : ZS) (Q : ZS → Prop) (k84 : Int32 × Int32 × ZS → Prop) : Prop :=
  ((S.1 1 0) ≤ x4 → X0_fill_b128 S Q) ∧ (¬ (S.1 1 0) ≤ x4 → X0_fewest x4 x3 S (fun r_101 S_101 => vp_in x4 10 ∧ ∀ S_104 : ZS, S_104 = zu S_101 7 (x4).toNatClampNeg r_101 → vp_in x4 10 ∧ vp_in (0 : Int32) 8 ∧ vp_in x4 10 ∧ ∀ x3_121 : Int32, x3_121 = (x3 - ((S_104.1 7 (x4).toNatClampNeg) * (S_104.1 (14 + ((0 : Int32)).toNatClampNeg) (x4).toNatClampNeg))) → ∀ x4_122 : Int32, x4_122 = x4 + (1 : Int32) → k84 (x3_121, x4_122, S_104)))
def X0_fill_L84 (Q : ZS → Prop) : (Int32 × Int32 × ZS) → ((Int32 × Int32 × ZS) → Prop) → Prop := fun st k84 => X0_fill_B84 st.1 st.2.1 st.2.2 Q k84
def X0_fill_b81 (x3 : Int32) (S : ZS) (Q : ZS → Prop) : Prop :=
  zl (X0_fill_L84 Q) (x3, (0 : Int32), S)
def X0_fill_b75 (x3 : Int32) (x4 : Int32) (S : ZS) (Q : ZS → Prop) (k28 : Int32 × ZS → Prop) : Prop :=
  ∀ x4_75 : Int32, x4_75 = x4 + (-1 : Int32) → k28 (x4_75, S)
def X0_fill_B28 (x3 : Int32) (x4 : Int32) (S : ZS) (Q : ZS → Prop) (k28 : Int32 × ZS → Prop) : Prop :=
  (x4 < 0 → X0_fill_b81 x3 S Q) ∧ (¬ x4 < 0 → vp_in (x4 + (1 : Int32)) 11 ∧ vp_in x4 11 ∧ zcpy (0 : Int32) (0 : Int32) (x3 + (1 : Int32)) 301 301 ∧ ∀ S_54 : ZS, S_54 = zur S (50 + (x4).toNatClampNeg) (va_cpy (S.1 (50 + ((x4 + (1 : Int32))).toNatClampNeg)) (S.1 (50 + (x4).toNatClampNeg)) ((0 : Int32)).toNatClampNeg ((0 : Int32)).toNatClampNeg ((x3 + (1 : Int32))).toNatClampNeg) → vp_in x4 10 ∧ (0 ≤ (S_54.1 10 (x4).toNatClampNeg) → X0_fill_b75 x3 x4 S_54 Q k28) ∧ (¬ 0 ≤ (S_54.1 10 (x4).toNatClampNeg) → X0_putInPacks x4 x3 S_54 (fun S_72 => X0_fill_b75 x3 x4 S_72 Q k28)))
def X0_fill_L28 (x3 : Int32) (Q : ZS → Prop) : (Int32 × ZS) → ((Int32 × ZS) → Prop) → Prop := fun st k28 => X0_fill_B28 x3 st.1 st.2 Q k28
def X0_fill (S : ZS) (Q : ZS → Prop) : Prop :=
  vp_in (0 : Int32) 8 ∧ ∀ x3_6 : Int32, x3_6 = (S.1 12 ((0 : Int32)).toNatClampNeg) → vp_in (S.1 1 0) 11 ∧ J7_fill_53178 (50 + ((S.1 1 0)).toNatClampNeg) 301 (0 : Int32) S (fun S_17 => ∀ x4_26 : Int32, x4_26 = ((S_17.1 1 0) - (1 : Int32)) → zl (X0_fill_L28 x3_6 Q) (x4_26, S_17))
set_option maxHeartbeats 4000000 in
set_option maxRecDepth 100000 in
theorem c_X0_fill (l : Launch) (D : va_G) (k : Nat → ClassId) (a : Nat → Nat) (hj : zDj a) (S : ZS) (Q : ZS → Prop) (hm : X0_fill S Q) (sz : Nat) : Met l yX0_fill wsX0_fill rm_X0_fill (zPc D k a [.ref (a 6), .ref (a 1), .ref (a 7)] S sz) (va_Qv Q (zB D k a) (zA a sz)) 0 0 (zA a sz) := by
  refine Met.ofW (cc := cX0_fill) (maxL := 5) (ret := none) (by decide) rfl ?_
  intro p e s m args below meth c s₁ B hml hv
  obtain ⟨rfl, hsz, hP, hK⟩ := hv
  have hx := B.exec
  have hb := B.bytes
  have hr := B.returns
  have hts := atoms_spec (ws := wsX0_fill) B.pre
  have hown : s.vm.findClass RX0 = some m.cls := findClass_of_methodNamed B.named
  have hlocks := B.notSynchronized
  subst hsz
  have hS : va_S (zA a s.heap.size) s.heap s.heap [] := va_S.rf
  have hF : CallFix p m c cX0_fill 5 s _ wsX0_fill RX0 := ⟨hx, hb, hml, hown, hts⟩
  have i0 : ∀ w ∈ wsX00, w ∈ wsX0_fill := fun _ h => (List.mem_cons_of_mem _ (List.mem_append_right _ h))
  have i5 : ∀ w ∈ wsX50, w ∈ wsX0_fill := fun _ h => (List.mem_cons_of_mem _ (List.mem_append_left _ (List.mem_append_right _ h)))
  have hl := lv_entry ([.ref (a 6), .ref (a 1), .ref (a 7)]) (n := 5) (Nat.le_of_ble_eq_true rfl)
  rw [lg_entry_eq]
  generalize (lg_sl ([.ref (a 6), .ref (a 1), .ref (a 7)]) ++ List.replicate (5 - (lg_sl ([.ref (a 6), .ref (a 1), .ref (a 7)])).length) Slot.unset).toArray = ls at hl ⊢
  have hl : lv_has ls 5 [(0, .ref (a 6)), (1, .ref (a 1)), (2, .ref (a 7))] := hl
  have b81 : ∀ (x3 : Int32) (S : ZS) (H : Heap) (locs : List Loc) (ls : Array Slot), X0_fill_b81 x3 S Q → va_P D vwCl (zWS k a S) H → va_S (zA a s.heap.size) s.heap H locs → lv_has ls 5 [(0, .ref (a 6)), (1, .ref (a 1)), (2, .ref (a 7)), (3, .int x3)] → zWv p l e (headSpec wsX0_fill rm_X0_fill).room s m ([.ref (a 6), .ref (a 1), .ref (a 7)] : List Value) below meth c D k a Q H locs (F0 m 81 ls []) := by
    intro x3 S H locs ls hm hP hS hl
    unfold X0_fill_b81 at hm
    have b128 : ∀ (S : ZS) (H : Heap) (locs : List Loc) (ls : Array Slot), X0_fill_b128 S Q → va_P D vwCl (zWS k a S) H → va_S (zA a s.heap.size) s.heap H locs → lv_has ls 5 [(0, .ref (a 6)), (1, .ref (a 1)), (2, .ref (a 7))] → zWv p l e (headSpec wsX0_fill rm_X0_fill).room s m ([.ref (a 6), .ref (a 1), .ref (a 7)] : List Value) below meth c D k a Q H locs (F0 m 128 ls []) := by
      intro S H locs ls hm hP hS hl
      unfold X0_fill_b128 at hm
      exact z_retv hx hb hr hlocks hP hS hm dX0_fill_128
    have L84 : ∀ (n : Nat) (x3 : Int32) (x4 : Int32) (S : ZS) (H : Heap) (locs : List Loc) (ls : Array Slot), zn (X0_fill_L84 Q) n (x3, x4, S) → va_P D vwCl (zWS k a S) H → va_S (zA a s.heap.size) s.heap H locs → lv_has ls 5 [(0, .ref (a 6)), (1, .ref (a 1)), (2, .ref (a 7)), (3, .int x3), (4, .int x4)] → zWv p l e (headSpec wsX0_fill rm_X0_fill).room s m ([.ref (a 6), .ref (a 1), .ref (a 7)] : List Value) below meth c D k a Q H locs (F0 m 84 ls []) := by
      intro n
      induction n with
      | zero =>
        intro x3 x4 S H locs ls hm
        exact hm.elim
      | succ n ih84 =>
        intro x3 x4 S H locs ls hm hP hS hl
        have hm : X0_fill_B84 x3 x4 S Q (zn (X0_fill_L84 Q) n) := hm
        generalize zn (X0_fill_L84 Q) n = k84 at hm ih84
        unfold X0_fill_B84 at hm
        refine lv_iload hx hb dX0_fill_84 (lv_at hl 4 rfl) ?_
        refine lv_aload_n hx hb dX0_fill_86 rfl (lv_at hl 1 rfl) ?_
        refine zg_5_columns hx hb hts i5 hown hK hP (hts _ (List.mem_of_getElem? (i := 3) rfl)) dX0_fill_87 ?_
        refine lv_icmp_ge (tgt := 128) hx hb dX0_fill_90 (by decide) (fun c_90 => ?_) (fun c_90 => ?_)
        · have hm := hm.1 c_90
          exact b128  S _ _ _ hm hP hS (lv_sub hl [0, 1, 2] rfl)
        · have hm := hm.2 c_90
          refine lv_aload_n hx hb dX0_fill_93 rfl (lv_at hl 2 rfl) ?_
          refine lv_iload hx hb dX0_fill_94 (lv_at hl 4 rfl) ?_
          refine lv_aload_n hx hb dX0_fill_96 rfl (lv_at hl 0 rfl) ?_
          refine lv_aload_n hx hb dX0_fill_97 rfl (lv_at hl 1 rfl) ?_
          refine lv_iload hx hb dX0_fill_98 (lv_at hl 4 rfl) ?_
          refine lv_iload_n hx hb dX0_fill_100 rfl (lv_at hl 3 rfl) ?_
          refine z_cVi (As := [.ref (a 1), .int x4, .int x3]) (rest := [.int x4, .ref (a 7)]) hF hK hP hS zO_6 rfl rfl (c_X0_fewest l D k a hj x4 x3 S _ hm _) (cwV 3 hts gX0_fill_X0_fewest rfl rfl rfl (by decide +kernel) ⟨Nat.le_of_ble_eq_true rfl, Nat.le_of_ble_eq_true rfl⟩) rfl hl.1 rfl (Nat.le_of_ble_eq_true rfl) dX0_fill_101 ⟨Nat.zero_le _, Nat.zero_le _⟩ (fun r_101 S_101 H locs hm hP hS => ?_)
          obtain ⟨h_104, hm⟩ := hm
          refine z_iast hx hb hj hK hP hS zI_7 h_104 dX0_fill_104 (fun H locs hP hS => ?_)
          obtain ⟨S_104, eS_104⟩ : ∃ z : ZS, z = zu S_101 7 (x4).toNatClampNeg r_101 := ⟨_, rfl⟩
          rw [← eS_104] at hP
          have hm := hm S_104 eS_104
          refine lv_iload_n hx hb dX0_fill_105 rfl (lv_at hl 3 rfl) ?_
          refine lv_aload_n hx hb dX0_fill_106 rfl (lv_at hl 2 rfl) ?_
          refine lv_iload hx hb dX0_fill_107 (lv_at hl 4 rfl) ?_
          obtain ⟨h_109, hm⟩ := hm
          refine z_iald hx hb hK hP zI_7 h_109 dX0_fill_109 ?_
          refine lv_aload_n hx hb dX0_fill_110 rfl (lv_at hl 1 rfl) ?_
          refine zg_5_a hx hb hts i5 hown hK hP (hts _ (List.mem_of_getElem? (i := 9) rfl)) dX0_fill_111 ?_
          refine lv_iconst (v := (0 : Int32)) hx hb dX0_fill_114 (by decide) ?_
          obtain ⟨h_115, hm⟩ := hm
          refine z_aald hx hb hK hP zQ_13 h_115 dX0_fill_115 ?_
          refine lv_iload hx hb dX0_fill_116 (lv_at hl 4 rfl) ?_
          obtain ⟨h_118, hm⟩ := hm
          refine z_iald hx hb hK hP (zRi_13 h_115) h_118 dX0_fill_118 ?_
          refine lv_imul hx hb dX0_fill_119 ?_
          refine lv_isub hx hb dX0_fill_120 ?_
          refine lv_topi (fun x3_121 ex3_121 => ?_)
          have hm := hm x3_121 ex3_121
          refine lv_istore_n (lv' := [(3, .int x3_121), (0, .ref (a 6)), (1, .ref (a 1)), (2, .ref (a 7)), (4, .int x4)]) hx hb dX0_fill_121 rfl hl (by decide) rfl (fun ls hl => ?_)
          obtain ⟨x4_122, ex4_122⟩ : ∃ y : Int32, y = x4 + (1 : Int32) := ⟨_, rfl⟩
          have hm := hm x4_122 ex4_122
          refine lv_iinc (v := x4_122) (lv' := [(4, .int x4_122), (3, .int x3_121), (0, .ref (a 6)), (1, .ref (a 1)), (2, .ref (a 7))]) hx hb dX0_fill_122 hl (k := 4) rfl (by rw [ex4_122]; rfl) (by decide) rfl (fun ls hl => ?_)
          refine lv_goto (tgt := 84) hx hb dX0_fill_125 (by decide) ?_
          exact ih84 x3_121 x4_122 S_104 _ _ _ hm hP hS (lv_sub hl [2, 3, 4, 1, 0] rfl)
    refine lv_iconst (v := (0 : Int32)) hx hb dX0_fill_81 (by decide) ?_
    refine lv_istore (lv' := [(4, .int (0 : Int32)), (0, .ref (a 6)), (1, .ref (a 1)), (2, .ref (a 7)), (3, .int x3)]) hx hb dX0_fill_82 hl (by decide) rfl (fun ls hl => ?_)
    obtain ⟨n84, hm⟩ := hm
    exact L84 n84 x3 (0 : Int32) S _ _ _ hm hP hS (lv_sub hl [1, 2, 3, 4, 0] rfl)
  have L28 : ∀ (x3 : Int32) (n : Nat) (x4 : Int32) (S : ZS) (H : Heap) (locs : List Loc) (ls : Array Slot), zn (X0_fill_L28 x3 Q) n (x4, S) → va_P D vwCl (zWS k a S) H → va_S (zA a s.heap.size) s.heap H locs → lv_has ls 5 [(0, .ref (a 6)), (1, .ref (a 1)), (2, .ref (a 7)), (3, .int x3), (4, .int x4)] → zWv p l e (headSpec wsX0_fill rm_X0_fill).room s m ([.ref (a 6), .ref (a 1), .ref (a 7)] : List Value) below meth c D k a Q H locs (F0 m 28 ls []) := by
    intro x3 n
    induction n with
    | zero =>
      intro x4 S H locs ls hm
      exact hm.elim
    | succ n ih28 =>
      intro x4 S H locs ls hm hP hS hl
      have hm : X0_fill_B28 x3 x4 S Q (zn (X0_fill_L28 x3 Q) n) := hm
      generalize zn (X0_fill_L28 x3 Q) n = k28 at hm ih28
      unfold X0_fill_B28 at hm
      have b75 : ∀ (x4 : Int32) (S : ZS) (H : Heap) (locs : List Loc) (ls : Array Slot), X0_fill_b75 x3 x4 S Q k28 → va_P D vwCl (zWS k a S) H → va_S (zA a s.heap.size) s.heap H locs → lv_has ls 5 [(0, .ref (a 6)), (1, .ref (a 1)), (2, .ref (a 7)), (3, .int x3), (4, .int x4)] → zWv p l e (headSpec wsX0_fill rm_X0_fill).room s m ([.ref (a 6), .ref (a 1), .ref (a 7)] : List Value) below meth c D k a Q H locs (F0 m 75 ls []) := by
        intro x4 S H locs ls hm hP hS hl
        unfold X0_fill_b75 at hm
        obtain ⟨x4_75, ex4_75⟩ : ∃ y : Int32, y = x4 + (-1 : Int32) := ⟨_, rfl⟩
        have hm := hm x4_75 ex4_75
        refine lv_iinc (v := x4_75) (lv' := [(4, .int x4_75), (0, .ref (a 6)), (1, .ref (a 1)), (2, .ref (a 7)), (3, .int x3)]) hx hb dX0_fill_75 hl (k := 4) rfl (by rw [ex4_75]; rfl) (by decide) rfl (fun ls hl => ?_)
        refine lv_goto (tgt := 28) hx hb dX0_fill_78 (by decide) ?_
        exact ih28 x4_75 S _ _ _ hm hP hS (lv_sub hl [1, 2, 3, 4, 0] rfl)
      refine lv_iload hx hb dX0_fill_28 (lv_at hl 4 rfl) ?_
      refine lv_if_lt (tgt := 81) hx hb dX0_fill_30 (by decide) (fun c_30 => ?_) (fun c_30 => ?_)
      · have hm := hm.1 c_30
        exact b81 x3 S _ _ _ hm hP hS (lv_sub hl [0, 1, 2, 3] rfl)
      · have hm := hm.2 c_30
        refine lv_aload_n hx hb dX0_fill_33 rfl (lv_at hl 0 rfl) ?_
        refine zg_0_least hx hb hts i0 hown hK hP (hts _ (List.mem_of_getElem? (i := 2) rfl)) dX0_fill_34 ?_
        refine lv_iload hx hb dX0_fill_37 (lv_at hl 4 rfl) ?_
        refine lv_iconst (v := (1 : Int32)) hx hb dX0_fill_39 (by decide) ?_
        refine lv_iadd hx hb dX0_fill_40 ?_
        obtain ⟨h_41, hm⟩ := hm
        refine z_aald hx hb hK hP zQ_49 h_41 dX0_fill_41 ?_
        refine lv_iconst (v := (0 : Int32)) hx hb dX0_fill_42 (by decide) ?_
        refine lv_aload_n hx hb dX0_fill_43 rfl (lv_at hl 0 rfl) ?_
        refine zg_0_least hx hb hts i0 hown hK hP (hts _ (List.mem_of_getElem? (i := 2) rfl)) dX0_fill_44 ?_
        refine lv_iload hx hb dX0_fill_47 (lv_at hl 4 rfl) ?_
        obtain ⟨h_49, hm⟩ := hm
        refine z_aald hx hb hK hP zQ_49 h_49 dX0_fill_49 ?_
        refine lv_iconst (v := (0 : Int32)) hx hb dX0_fill_50 (by decide) ?_
        refine lv_iload_n hx hb dX0_fill_51 rfl (lv_at hl 3 rfl) ?_
        refine lv_iconst (v := (1 : Int32)) hx hb dX0_fill_52 (by decide) ?_
        refine lv_iadd hx hb dX0_fill_53 ?_
        obtain ⟨h_54, hm⟩ := hm
        refine z_copy hx hb (hml.trans hl.1.symm) hown (hts _ (List.mem_of_getElem? (i := 4) rfl)) (hts _ (List.mem_of_getElem? (i := 5) rfl)) (hts _ (List.mem_of_getElem? (i := 6) rfl)) (hts _ (List.mem_of_getElem? (i := 7) rfl)) hj hK hP hS (zRi_49 h_41) (zRi_49 h_49) h_54 (Nat.le_of_ble_eq_true rfl) (Nat.le_of_ble_eq_true rfl) dX0_fill_54 (fun H locs hP hS => ?_)
        obtain ⟨S_54, eS_54⟩ : ∃ z : ZS, z = zur S (50 + (x4).toNatClampNeg) (va_cpy (S.1 (50 + ((x4 + (1 : Int32))).toNatClampNeg)) (S.1 (50 + (x4).toNatClampNeg)) ((0 : Int32)).toNatClampNeg ((0 : Int32)).toNatClampNeg ((x3 + (1 : Int32))).toNatClampNeg) := ⟨_, rfl⟩
        rw [← eS_54] at hP
        have hm := hm S_54 eS_54
        refine lv_aload_n hx hb dX0_fill_57 rfl (lv_at hl 1 rfl) ?_
        refine zg_5_cost hx hb hts i5 hown hK hP (hts _ (List.mem_of_getElem? (i := 8) rfl)) dX0_fill_58 ?_
        refine lv_iload hx hb dX0_fill_61 (lv_at hl 4 rfl) ?_
        obtain ⟨h_63, hm⟩ := hm
        refine z_iald hx hb hK hP zI_10 h_63 dX0_fill_63 ?_
        refine lv_if_ge (tgt := 75) hx hb dX0_fill_64 (by decide) (fun c_64 => ?_) (fun c_64 => ?_)
        · have hm := hm.1 c_64
          exact b75 x4 S_54 _ _ _ hm hP hS (lv_sub hl [0, 1, 2, 3, 4] rfl)
        · have hm := hm.2 c_64
          refine lv_aload_n hx hb dX0_fill_67 rfl (lv_at hl 0 rfl) ?_
          refine lv_aload_n hx hb dX0_fill_68 rfl (lv_at hl 1 rfl) ?_
          refine lv_iload hx hb dX0_fill_69 (lv_at hl 4 rfl) ?_
          refine lv_iload_n hx hb dX0_fill_71 rfl (lv_at hl 3 rfl) ?_
          refine z_cVv (As := [.ref (a 1), .int x4, .int x3]) (rest := []) hF hK hP hS zO_6 rfl rfl (c_X0_putInPacks l D k a hj x4 x3 S_54 _ hm _) (cwV 3 hts gX0_fill_X0_putInPacks rfl rfl rfl (by decide +kernel) ⟨Nat.le_of_ble_eq_true rfl, Nat.le_of_ble_eq_true rfl⟩) rfl hl.1 rfl (Nat.le_of_ble_eq_true rfl) dX0_fill_72 ⟨Nat.zero_le _, Nat.zero_le _⟩ (fun S_72 H locs hm hP hS => ?_)
          exact b75 x4 S_72 _ _ _ hm hP hS (lv_sub hl [0, 1, 2, 3, 4] rfl)
  unfold X0_fill at hm
  refine lv_aload_n hx hb dX0_fill_0 rfl (lv_at hl 1 rfl) ?_
  refine zg_5_right hx hb hts i5 hown hK hP (hts _ (List.mem_of_getElem? (i := 1) rfl)) dX0_fill_1 ?_
  refine lv_iconst (v := (0 : Int32)) hx hb dX0_fill_4 (by decide) ?_
  obtain ⟨h_5, hm⟩ := hm
  refine z_iald hx hb hK hP zI_12 h_5 dX0_fill_5 ?_
  refine lv_topi (fun x3_6 ex3_6 => ?_)
  have hm := hm x3_6 ex3_6
  refine lv_istore_n (lv' := [(3, .int x3_6), (0, .ref (a 6)), (1, .ref (a 1)), (2, .ref (a 7))]) hx hb dX0_fill_6 rfl hl (by decide) rfl (fun ls hl => ?_)
  refine lv_aload_n hx hb dX0_fill_7 rfl (lv_at hl 1 rfl) ?_
  refine zg_0_least hx hb hts i0 hown hK hP (hts _ (List.mem_of_getElem? (i := 2) rfl)) dX0_fill_8 ?_
  refine lv_aload_n hx hb dX0_fill_11 rfl (lv_at hl 2 rfl) ?_
  refine zg_5_columns hx hb hts i5 hown hK hP (hts _ (List.mem_of_getElem? (i := 3) rfl)) dX0_fill_12 ?_
  obtain ⟨h_15, hm⟩ := hm
  refine z_aald hx hb hK hP zQ_49 h_15 dX0_fill_15 ?_
  refine lv_iconst (v := (0 : Int32)) hx hb dX0_fill_16 (by decide) ?_
  refine z_cSv (As := [.ref (a (50 + ((S.1 1 0)).toNatClampNeg)), .int (0 : Int32)]) (rest := []) hF hK hP hS (c_J7_fill_53178 l D k a hj (50 + ((S.1 1 0)).toNatClampNeg) 301 (zRi_49 h_15) (0 : Int32) S _ hm _) (va_cwS 2 hts gX0_fill_J7_fill_53178 rfl rfl rfl (by decide +kernel) ⟨Nat.le_of_ble_eq_true rfl, Nat.le_of_ble_eq_true rfl⟩) rfl hl.1 rfl (Nat.le_of_ble_eq_true rfl) dX0_fill_17 ⟨Nat.zero_le _, Nat.zero_le _⟩ (fun S_17 H locs hm hP hS => ?_)
  refine lv_aload_n hx hb dX0_fill_20 rfl (lv_at hl 2 rfl) ?_
  refine zg_5_columns hx hb hts i5 hown hK hP (hts _ (List.mem_of_getElem? (i := 3) rfl)) dX0_fill_21 ?_
  refine lv_iconst (v := (1 : Int32)) hx hb dX0_fill_24 (by decide) ?_
  refine lv_isub hx hb dX0_fill_25 ?_
  refine lv_topi (fun x4_26 ex4_26 => ?_)
  have hm := hm x4_26 ex4_26
  refine lv_istore (lv' := [(4, .int x4_26), (3, .int x3_6), (0, .ref (a 6)), (1, .ref (a 1)), (2, .ref (a 7))]) hx hb dX0_fill_26 hl (by decide) rfl (fun ls hl => ?_)
  obtain ⟨n28, hm⟩ := hm
  exact L28 x3_6 n28 x4_26 S_17 _ _ _ hm hP hS (lv_sub hl [2, 3, 4, 1, 0] rfl)

