abbrev rm_X6_isWithin : Room := { frames := 0, cells := 0, slots := 0, locals := 0 }
def X6_isWithin_b16 (t0 : Int32) (S : ZS) (Q : Int32 → ZS → Prop) : Prop :=
  zbit t0 ∧ Q t0 S
def X6_isWithin_b15 (S : ZS) (Q : Int32 → ZS → Prop) : Prop :=
  X6_isWithin_b16 (0 : Int32) S Q
def X6_isWithin (y0 : Int32) (y1 : Int32) (S : ZS) (Q : Int32 → ZS → Prop) : Prop :=
  (y0 < (-y1) → X6_isWithin_b15 S Q) ∧ (¬ y0 < (-y1) → (y1 < y0 → X6_isWithin_b15 S Q) ∧ (¬ y1 < y0 → X6_isWithin_b16 (1 : Int32) S Q))
set_option maxHeartbeats 4000000 in
set_option maxRecDepth 100000 in
theorem c_X6_isWithin (l : Launch) (D : va_G) (k : Nat → ClassId) (a : Nat → Nat) (hj : zDj a) (y0 : Int32) (y1 : Int32) (S : ZS) (Q : Int32 → ZS → Prop) (hm : X6_isWithin y0 y1 S Q) (sz : Nat) : Met l yX6_isWithin wsX6_isWithin rm_X6_isWithin (zPc D k a [.int y0, .int y1] S sz) (va_Qi Q (zB D k a) (zA a sz)) 0 0 (zA a sz) := by
  refine Met.ofW (cc := cX6_isWithin) (maxL := 2) (ret := (some .boolean)) (by decide) rfl ?_
  intro p e s m args below meth c s₁ B hml hv
  obtain ⟨rfl, hsz, hP, hK⟩ := hv
  have hx := B.exec
  have hb := B.bytes
  have hr := B.returns
  have hts := atoms_spec (ws := wsX6_isWithin) B.pre
  have hown : s.vm.findClass RX6 = some m.cls := findClass_of_methodNamed B.named
  have hlocks := B.notSynchronized
  subst hsz
  have hS : va_S (zA a s.heap.size) s.heap s.heap [] := va_S.rf
  have hF : CallFix p m c cX6_isWithin 2 s _ wsX6_isWithin RX6 := ⟨hx, hb, hml, hown, hts⟩
  have hl := lv_entry ([.int y0, .int y1]) (n := 2) (Nat.le_of_ble_eq_true rfl)
  rw [lg_entry_eq]
  generalize (lg_sl ([.int y0, .int y1]) ++ List.replicate (2 - (lg_sl ([.int y0, .int y1])).length) Slot.unset).toArray = ls at hl ⊢
  have hl : lv_has ls 2 [(0, .int y0), (1, .int y1)] := hl
  have b16 : ∀ (t0 : Int32) (S : ZS) (H : Heap) (locs : List Loc) (ls : Array Slot), X6_isWithin_b16 t0 S Q → va_P D vwCl (zWS k a S) H → va_S (zA a s.heap.size) s.heap H locs → lv_has ls 2 [] → zWi p l e (headSpec wsX6_isWithin rm_X6_isWithin).room s m ([.int y0, .int y1] : List Value) below meth c D k a Q H locs (F0 m 16 ls [.int t0]) := by
    intro t0 S H locs ls hm hP hS hl
    unfold X6_isWithin_b16 at hm
    exact z_retz hx hb hr hlocks hP hS hm dX6_isWithin_16
  have b15 : ∀ (S : ZS) (H : Heap) (locs : List Loc) (ls : Array Slot), X6_isWithin_b15 S Q → va_P D vwCl (zWS k a S) H → va_S (zA a s.heap.size) s.heap H locs → lv_has ls 2 [] → zWi p l e (headSpec wsX6_isWithin rm_X6_isWithin).room s m ([.int y0, .int y1] : List Value) below meth c D k a Q H locs (F0 m 15 ls []) := by
    intro S H locs ls hm hP hS hl
    unfold X6_isWithin_b15 at hm
    refine lv_iconst (v := (0 : Int32)) hx hb dX6_isWithin_15 (by decide) ?_
    exact b16 (0 : Int32) S _ _ _ hm hP hS (lv_sub hl [] rfl)
  unfold X6_isWithin at hm
  refine lv_iload_n hx hb dX6_isWithin_0 rfl (lv_at hl 0 rfl) ?_
  refine lv_iload_n hx hb dX6_isWithin_1 rfl (lv_at hl 1 rfl) ?_
  refine lv_ineg hx hb dX6_isWithin_2 ?_
  refine lv_icmp_lt (tgt := 15) hx hb dX6_isWithin_3 (by decide) (fun c_3 => ?_) (fun c_3 => ?_)
  · have hm := hm.1 c_3
    exact b15  S _ _ _ hm hP hS (lv_sub hl [] rfl)
  · have hm := hm.2 c_3
    refine lv_iload_n hx hb dX6_isWithin_6 rfl (lv_at hl 0 rfl) ?_
    refine lv_iload_n hx hb dX6_isWithin_7 rfl (lv_at hl 1 rfl) ?_
    refine lv_icmp_gt (tgt := 15) hx hb dX6_isWithin_8 (by decide) (fun c_8 => ?_) (fun c_8 => ?_)
    · have hm := hm.1 c_8
      exact b15  S _ _ _ hm hP hS (lv_sub hl [] rfl)
    · have hm := hm.2 c_8
      refine lv_iconst (v := (1 : Int32)) hx hb dX6_isWithin_11 (by decide) ?_
      refine lv_goto (tgt := 16) hx hb dX6_isWithin_12 (by decide) ?_
      exact b16 (1 : Int32) S _ _ _ hm hP hS (lv_sub hl [] rfl)

abbrev rm_X6_areBounds : Room := { frames := 1, cells := 0, slots := 0, locals := 21 }
def X6_areBounds_b30 (t0 : Int32) (S : ZS) (Q : Int32 → ZS → Prop) : Prop :=
  zbit t0 ∧ Q t0 S
def X6_areBounds_b29 (S : ZS) (Q : Int32 → ZS → Prop) : Prop :=
  X6_areBounds_b30 (0 : Int32) S Q
def X6_areBounds (y0 : Int32) (y1 : Int32) (S : ZS) (Q : Int32 → ZS → Prop) : Prop :=
  X6_isWithin y0 (1000 : Int32) S (fun r_4 S_4 => (r_4 = 0 → X6_areBounds_b29 S_4 Q) ∧ (¬ r_4 = 0 → X6_isWithin y1 (1000 : Int32) S_4 (fun r_14 S_14 => (r_14 = 0 → X6_areBounds_b29 S_14 Q) ∧ (¬ r_14 = 0 → (y1 < y0 → X6_areBounds_b29 S_14 Q) ∧ (¬ y1 < y0 → X6_areBounds_b30 (1 : Int32) S_14 Q)))))
set_option maxHeartbeats 4000000 in
set_option maxRecDepth 100000 in
theorem c_X6_areBounds (l : Launch) (D : va_G) (k : Nat → ClassId) (a : Nat → Nat) (hj : zDj a) (y0 : Int32) (y1 : Int32) (S : ZS) (Q : Int32 → ZS → Prop) (hm : X6_areBounds y0 y1 S Q) (sz : Nat) : Met l yX6_areBounds wsX6_areBounds rm_X6_areBounds (zPc D k a [.int y0, .int y1] S sz) (va_Qi Q (zB D k a) (zA a sz)) 0 0 (zA a sz) := by
  refine Met.ofW (cc := cX6_areBounds) (maxL := 2) (ret := (some .boolean)) (by decide) rfl ?_
  intro p e s m args below meth c s₁ B hml hv
  obtain ⟨rfl, hsz, hP, hK⟩ := hv
  have hx := B.exec
  have hb := B.bytes
  have hr := B.returns
  have hts := atoms_spec (ws := wsX6_areBounds) B.pre
  have hown : s.vm.findClass RX6 = some m.cls := findClass_of_methodNamed B.named
  have hlocks := B.notSynchronized
  subst hsz
  have hS : va_S (zA a s.heap.size) s.heap s.heap [] := va_S.rf
  have hF : CallFix p m c cX6_areBounds 2 s _ wsX6_areBounds RX6 := ⟨hx, hb, hml, hown, hts⟩
  have hl := lv_entry ([.int y0, .int y1]) (n := 2) (Nat.le_of_ble_eq_true rfl)
  rw [lg_entry_eq]
  generalize (lg_sl ([.int y0, .int y1]) ++ List.replicate (2 - (lg_sl ([.int y0, .int y1])).length) Slot.unset).toArray = ls at hl ⊢
  have hl : lv_has ls 2 [(0, .int y0), (1, .int y1)] := hl
  have b30 : ∀ (t0 : Int32) (S : ZS) (H : Heap) (locs : List Loc) (ls : Array Slot), X6_areBounds_b30 t0 S Q → va_P D vwCl (zWS k a S) H → va_S (zA a s.heap.size) s.heap H locs → lv_has ls 2 [] → zWi p l e (headSpec wsX6_areBounds rm_X6_areBounds).room s m ([.int y0, .int y1] : List Value) below meth c D k a Q H locs (F0 m 30 ls [.int t0]) := by
    intro t0 S H locs ls hm hP hS hl
    unfold X6_areBounds_b30 at hm
    exact z_retz hx hb hr hlocks hP hS hm dX6_areBounds_30
  have b29 : ∀ (S : ZS) (H : Heap) (locs : List Loc) (ls : Array Slot), X6_areBounds_b29 S Q → va_P D vwCl (zWS k a S) H → va_S (zA a s.heap.size) s.heap H locs → lv_has ls 2 [] → zWi p l e (headSpec wsX6_areBounds rm_X6_areBounds).room s m ([.int y0, .int y1] : List Value) below meth c D k a Q H locs (F0 m 29 ls []) := by
    intro S H locs ls hm hP hS hl
    unfold X6_areBounds_b29 at hm
    refine lv_iconst (v := (0 : Int32)) hx hb dX6_areBounds_29 (by decide) ?_
    exact b30 (0 : Int32) S _ _ _ hm hP hS (lv_sub hl [] rfl)
  unfold X6_areBounds at hm
  refine lv_iload_n hx hb dX6_areBounds_0 rfl (lv_at hl 0 rfl) ?_
  refine lv_sipush (v := (1000 : Int32)) hx hb dX6_areBounds_1 (by decide) ?_
  refine z_cSi (As := [.int y0, .int (1000 : Int32)]) (rest := []) hF hK hP hS (c_X6_isWithin l D k a hj y0 (1000 : Int32) S _ hm _) (va_cwS 2 hts gX6_areBounds_X6_isWithin rfl rfl rfl (by decide +kernel) ⟨Nat.le_of_ble_eq_true rfl, Nat.le_of_ble_eq_true rfl⟩) rfl hl.1 rfl (Nat.le_of_ble_eq_true rfl) dX6_areBounds_4 ⟨Nat.zero_le _, Nat.zero_le _⟩ (fun r_4 S_4 H locs hm hP hS => ?_)
  refine lv_if_eq (tgt := 29) hx hb dX6_areBounds_7 (by decide) (fun c_7 => ?_) (fun c_7 => ?_)
  · have hm := hm.1 c_7
    exact b29  S_4 _ _ _ hm hP hS (lv_sub hl [] rfl)
  · have hm := hm.2 c_7
    refine lv_iload_n hx hb dX6_areBounds_10 rfl (lv_at hl 1 rfl) ?_
    refine lv_sipush (v := (1000 : Int32)) hx hb dX6_areBounds_11 (by decide) ?_
    refine z_cSi (As := [.int y1, .int (1000 : Int32)]) (rest := []) hF hK hP hS (c_X6_isWithin l D k a hj y1 (1000 : Int32) S_4 _ hm _) (va_cwS 2 hts gX6_areBounds_X6_isWithin rfl rfl rfl (by decide +kernel) ⟨Nat.le_of_ble_eq_true rfl, Nat.le_of_ble_eq_true rfl⟩) rfl hl.1 rfl (Nat.le_of_ble_eq_true rfl) dX6_areBounds_14 ⟨Nat.zero_le _, Nat.zero_le _⟩ (fun r_14 S_14 H locs hm hP hS => ?_)
    refine lv_if_eq (tgt := 29) hx hb dX6_areBounds_17 (by decide) (fun c_17 => ?_) (fun c_17 => ?_)
    · have hm := hm.1 c_17
      exact b29  S_14 _ _ _ hm hP hS (lv_sub hl [] rfl)
    · have hm := hm.2 c_17
      refine lv_iload_n hx hb dX6_areBounds_20 rfl (lv_at hl 0 rfl) ?_
      refine lv_iload_n hx hb dX6_areBounds_21 rfl (lv_at hl 1 rfl) ?_
      refine lv_icmp_gt (tgt := 29) hx hb dX6_areBounds_22 (by decide) (fun c_22 => ?_) (fun c_22 => ?_)
      · have hm := hm.1 c_22
        exact b29  S_14 _ _ _ hm hP hS (lv_sub hl [] rfl)
      · have hm := hm.2 c_22
        refine lv_iconst (v := (1 : Int32)) hx hb dX6_areBounds_25 (by decide) ?_
        refine lv_goto (tgt := 30) hx hb dX6_areBounds_26 (by decide) ?_
        exact b30 (1 : Int32) S_14 _ _ _ hm hP hS (lv_sub hl [] rfl)

