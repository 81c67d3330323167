/-! Shape(), FlowParts(): all that the class makes (wip/gen/mkctor3.py) -/
def znests : List Cond := [.methodLinkNest RX6 11 yX4_init RX6, .methodLinkNest RX6 23 yX1_init RX6, .methodLinkNest RX6 30 yX2_init RX6, .methodLinkNest RX6 37 yX3_init RX6, .methodLinkNest RX6 44 yX0_init RX6, .methodLinkNest RX4 11 yX5_init RX6]
theorem zK0.same {D : va_G} {k : Nat → ClassId} {u U : State} (hv : u.vm = U.vm) (h : zK0 D k u) : zK0 D k U := ⟨va_K.moved (by rw [← hv]; exact Vm.Alike.refl u.vm) h.1, va_AOA.moved (by rw [← hv]; exact Vm.Alike.refl u.vm) h.2⟩
def zPk (D : va_G) (k : Nat → ClassId) (av : List Value) (wc : va_W) (sz : Nat) : Array Value → State → Prop := va_Pc av (fun U => U.heap.size = sz ∧ va_P D vwCl wc U.heap ∧ zK0 D k U ∧ va_D (fun _ => True) wc)
theorem zPk_blind {D : va_G} {k : Nat → ClassId} {av : List Value} {wc : va_W} {sz : Nat} : FrameBlind (zPk D k av wc sz) := fun x U g mk q => by
  obtain ⟨q0, q1, qP, qK, qD⟩ := q
  exact ⟨q0, q1, qP, zK0.same (u := U) (U := U.calling g mk x) rfl qK, qD⟩
theorem zPk_pre {D : va_G} {k : Nat → ClassId} {av : List Value} {wc : va_W} {H : Heap} {s : State} {A : Nat → Prop} (hK : zK0 D k s) (hP : va_P D vwCl wc H) (hD : va_D A wc) : ∀ U : State, U.heap = H → s.WarmedH U.vm → zPk D k av wc H.size av.toArray U := fun U hU hW => ⟨rfl, by rw [hU], by rw [hU]; exact hP, hK.warm hW, hD.weaken (fun _ _ _ _ => trivial)⟩
def zPs (D : va_G) (k : Nat → ClassId) (av : List Value) (wc : va_W) (sz : Nat) : Array Value → State → Prop := va_Pc av (fun U => U.heap.size = sz ∧ va_P D vwCl wc U.heap ∧ zK0 D k U ∧ va_D (fun _ => True) wc ∧ va_Nw (.methodLinkNest RX4 11 yX5_init RX6) U)
theorem zPs_blind {D : va_G} {k : Nat → ClassId} {av : List Value} {wc : va_W} {sz : Nat} : FrameBlind (zPs D k av wc sz) := fun x U g mk q => by
  obtain ⟨q0, q1, qP, qK, qD, qN⟩ := q
  exact ⟨q0, q1, qP, zK0.same (u := U) (U := U.calling g mk x) rfl qK, qD, va_Nw.same (u := U) (U := U.calling g mk x) rfl rfl qN⟩
theorem zPs_pre {D : va_G} {k : Nat → ClassId} {av : List Value} {wc : va_W} {H : Heap} {s : State} {A : Nat → Prop} (hK : zK0 D k s) (hN : va_Nw (.methodLinkNest RX4 11 yX5_init RX6) s) (hP : va_P D vwCl wc H) (hD : va_D A wc) : ∀ U : State, U.heap = H → s.WarmedH U.vm → zPs D k av wc H.size av.toArray U := fun U hU hW => ⟨rfl, by rw [hU], by rw [hU]; exact hP, hK.warm hW, hD.weaken (fun _ _ _ _ => trivial), va_Nw.warmM hW hN⟩
def zc_4 (k : Nat → ClassId) (h0 : Nat) (q r : Nat → Nat) : va_W := ((((([(h0, .inr (4, [.ref (q 0), .ref (q 7), .ref (q 8), .ref (q 9), .ref (q 10)]))] ++ (zc_5 k (q 0) (fun j => q (j + 1)) r)) ++ [(q 7, .inl (k 0, 8, .inl (fun _ => 0)))]) ++ [(q 8, .inl (k 0, 8, .inl (fun _ => 0)))]) ++ [(q 9, .inl (k 0, 10, .inl (fun _ => 0)))]) ++ [(q 10, .inl (k 0, 10, .inl (fun _ => 0)))])
abbrev rm_X4_init : Room := { frames := 2, cells := 19, slots := 178, locals := 40 }
set_option maxHeartbeats 8000000 in
set_option maxRecDepth 100000 in
theorem c_X4_init (l : Launch) (D : va_G) (k : Nat → ClassId) (h0 : Nat) (sz : Nat) : Met l yX4_init wsX4_init rm_X4_init (va_Pc [.ref h0] (fun U => U.heap.size = sz ∧ va_P D vwCl [(h0, .inr (4, [.null, .null, .null, .null, .null]))] U.heap ∧ zK0 D k U ∧ va_D (fun _ => True) [(h0, .inr (4, [.null, .null, .null, .null, .null]))] ∧ va_Nw (.methodLinkNest RX4 11 yX5_init RX6) U)) (va_Qv (fun _ : (Nat → Nat) × (Nat → Nat) => True) (fun u t => va_P D vwCl (zc_4 k h0 u.1 u.2) t.heap ∧ va_D (va_A [(h0, .inr (4, [.null, .null, .null, .null, .null]))] sz) (zc_4 k h0 u.1 u.2)) (va_A [(h0, .inr (4, [.null, .null, .null, .null, .null]))] sz)) 19 178 (va_A [(h0, .inr (4, [.null, .null, .null, .null, .null]))] sz) := by
  refine Met.ofW (cc := cX4_init) (maxL := 1) (ret := none) (by decide) rfl ?_
  intro p e s m args below meth c s₁ B hml hv
  obtain ⟨rfl, hsz, hP, hK, hD0, hN⟩ := hv
  have hx := B.exec
  have hb := B.bytes
  have hr := B.returns
  have hts := atoms_spec (ws := wsX4_init) B.pre
  have hown : s.vm.findClass RX4 = some m.cls := findClass_of_methodNamed B.named
  have hlocks := B.notSynchronized
  have hin : meth.name = "<init>" := (name_of_methodNamed B.named B.method).1
  subst hsz
  have hD := hD0.self (sz := s.heap.size)
  generalize hAe : va_A [(h0, .inr (4, [.null, .null, .null, .null, .null]))] s.heap.size = A at hD ⊢
  have hA : ∀ q : Nat, s.heap.size ≤ q → A q := fun q h => by rw [← hAe]; exact Or.inr h
  have hS : va_S A s.heap s.heap [] := va_S.rf
  have i4 : ∀ w ∈ wsX40, w ∈ wsX4_init := fun _ h => (List.mem_cons_of_mem _ (List.mem_append_right _ h))
  have i5 : ∀ w ∈ wsX50, w ∈ wsX4_init := fun _ h => (List.mem_cons_of_mem _ (List.mem_append_left _ (List.mem_append_right _ h)))
  have hl := lv_entry ([.ref h0]) (n := 1) (Nat.le_of_ble_eq_true rfl)
  rw [lg_entry_eq]
  generalize (lg_sl ([.ref h0]) ++ List.replicate (1 - (lg_sl ([.ref h0])).length) Slot.unset).toArray = ls at hl ⊢
  have hl : lv_has ls 1 [(0, .ref h0)] := hl
  refine lv_aload_n hx hb dX4_init_0 rfl (lv_at hl 0 rfl) ?_
  refine W.objInit hx hb hown (hts _ (List.mem_of_getElem? (i := 1) rfl)) (hts _ (List.mem_of_getElem? (i := 2) rfl)) (hts _ (List.mem_of_getElem? (i := 3) rfl)) rfl (by rw [hml]; exact hl.1) rfl dX4_init_1 (Nat.le_of_ble_eq_true rfl) (Nat.le_of_ble_eq_true rfl) ?_
  refine W.eq (g2 := F0 m 4 ls []) rfl ?_
  refine lv_aload_n hx hb dX4_init_4 rfl (lv_at hl 0 rfl) ?_
  refine va_new (ci := 5) (fs := [.int 0, .int 0, .null, .null, .null, .null, .null, .null]) (C := RX5) (T := TX5) (N := 8) hx hb hts i5 tyX5 tyX5_ok hown (hts _ (List.mem_of_getElem? (i := 4) rfl)) (hts _ (List.mem_of_getElem? (i := 5) rfl)) (hts _ (List.mem_of_getElem? (i := 6) rfl)) hK.1 hP hD hS hA rfl (fun j hj => by rcases (show j = 0 ∨ j = 1 ∨ j = 2 ∨ j = 3 ∨ j = 4 ∨ j = 5 ∨ j = 6 ∨ j = 7 by omega) with rfl | rfl | rfl | rfl | rfl | rfl | rfl | rfl <;> rfl) (Nat.le_of_ble_eq_true rfl) (Nat.le_of_ble_eq_true rfl) dX4_init_5 (fun q5 H hP hD hS => ?_)
  have hP : va_P D vwCl ([(h0, .inr (4, [.null, .null, .null, .null, .null]))] ++ [(q5, .inr (5, [.int 0, .int 0, .null, .null, .null, .null, .null, .null]))]) H := hP
  have hD : va_D A ([(h0, .inr (4, [.null, .null, .null, .null, .null]))] ++ [(q5, .inr (5, [.int 0, .int 0, .null, .null, .null, .null, .null, .null]))]) := hD
  refine lv_dup hx hb dX4_init_8 rfl ?_
  have hPc := hP.sub (ws' := [(q5, .inr (5, [.int 0, .int 0, .null, .null, .null, .null, .null, .null]))]) [1] rfl
  have hDc := hD.sub (ws' := [(q5, .inr (5, [.int 0, .int 0, .null, .null, .null, .null, .null, .null]))]) [1] (by decide) rfl
  have hFc := va_free (wc := [(q5, .inr (5, [.int 0, .int 0, .null, .null, .null, .null, .null, .null]))]) hD hS hA [1] rfl
  refine va_callv (va_runIN (As := []) (rest := [.ref q5, .ref h0]) ⟨hx, hb, hml, hown, hts⟩ (c_X5_init l D k q5 H.size) ⟨va_cnB 0 hts gX4_init_X5_init_n11 rfl rfl rfl (hN) (hts _ (List.mem_of_getElem? (i := 6) rfl)) (by decide +kernel) ⟨(Nat.le_of_ble_eq_true rfl), (Nat.le_of_ble_eq_true rfl)⟩, rfl, hts _ (List.mem_of_getElem? (i := 13) rfl)⟩ ⟨zPk_blind, zPk_pre hK hPc hDc⟩ rfl rfl hl.1 rfl (lv_room (Nat.le_of_ble_eq_true rfl)) dX4_init_9 ⟨(Nat.le_of_ble_eq_true rfl), (Nat.le_of_ble_eq_true rfl)⟩) hS (fun q _ h => hFc q h) hFc (fun u9 t H1 locs ht hvm hw hB hz1 hk1 hS => ?_)
  obtain ⟨hP1, hD1⟩ := hB
  rw [ht] at hP1
  obtain ⟨hP, hD⟩ := va_join (wr := [(h0, .inr (4, [.null, .null, .null, .null, .null]))]) (w1 := zc_5 k q5 u9.1 u9.2) hP hD [1] [0] rfl rfl (by decide) (by decide) hk1 hFc hP1 hD1
  generalize H1 = H at hP hS ⊢
  have hP : va_P D vwCl ([(h0, .inr (4, [.null, .null, .null, .null, .null]))] ++ (zc_5 k q5 u9.1 u9.2)) H := hP
  have hD : va_D A ([(h0, .inr (4, [.null, .null, .null, .null, .null]))] ++ (zc_5 k q5 u9.1 u9.2)) := hD
  refine va_putF (D := D) (ci := 4) (v := .ref q5) (ty := .object "FlowParts$Whole") (C := RX4) (T := TX4) (N := 5) hx hb hts i4 tyX4 tyX4_ok nmX4 hown hK.1 hP hD hS 0 rfl rfl 0 (by decide) (hts _ (List.mem_of_getElem? (i := 7) rfl)) (fun _ h9 => h9) rfl hin rfl (by decide +kernel) rfl rfl (Nat.le_of_ble_eq_true rfl) dX4_init_12 (fun H locs hP hD hS => ?_)
  have hP : va_P D vwCl ([(h0, .inr (4, [.ref q5, .null, .null, .null, .null]))] ++ (zc_5 k q5 u9.1 u9.2)) H := hP
  have hD : va_D A ([(h0, .inr (4, [.ref q5, .null, .null, .null, .null]))] ++ (zc_5 k q5 u9.1 u9.2)) := hD
  refine lv_aload_n hx hb dX4_init_15 rfl (lv_at hl 0 rfl) ?_
  refine lv_bipush (v := (8 : Int32)) hx hb dX4_init_16 (by decide) ?_
  refine z_newI (N' := 8) hx hb (hts _ (List.mem_of_getElem? (i := 8) rfl)) hK hP hD hS hA (by decide) (by decide) (by decide) (Nat.le_of_ble_eq_true rfl) (Nat.le_of_ble_eq_true rfl) dX4_init_18 (fun q18 H hP hD hS => ?_)
  have hP : va_P D vwCl (([(h0, .inr (4, [.ref q5, .null, .null, .null, .null]))] ++ (zc_5 k q5 u9.1 u9.2)) ++ [(q18, .inl (k 0, 8, .inl (fun _ => 0)))]) H := hP
  have hD : va_D A (([(h0, .inr (4, [.ref q5, .null, .null, .null, .null]))] ++ (zc_5 k q5 u9.1 u9.2)) ++ [(q18, .inl (k 0, 8, .inl (fun _ => 0)))]) := hD
  refine va_putF (D := D) (ci := 4) (v := .ref q18) (ty := .array .int) (C := RX4) (T := TX4) (N := 5) hx hb hts i4 tyX4 tyX4_ok nmX4 hown hK.1 hP hD hS 0 rfl rfl 1 (by decide) (hts _ (List.mem_of_getElem? (i := 9) rfl)) (fun _ h9 => h9) rfl hin rfl (by decide +kernel) rfl rfl (Nat.le_of_ble_eq_true rfl) dX4_init_20 (fun H locs hP hD hS => ?_)
  have hP : va_P D vwCl (([(h0, .inr (4, [.ref q5, .ref q18, .null, .null, .null]))] ++ (zc_5 k q5 u9.1 u9.2)) ++ [(q18, .inl (k 0, 8, .inl (fun _ => 0)))]) H := hP
  have hD : va_D A (([(h0, .inr (4, [.ref q5, .ref q18, .null, .null, .null]))] ++ (zc_5 k q5 u9.1 u9.2)) ++ [(q18, .inl (k 0, 8, .inl (fun _ => 0)))]) := hD
  refine lv_aload_n hx hb dX4_init_23 rfl (lv_at hl 0 rfl) ?_
  refine lv_bipush (v := (8 : Int32)) hx hb dX4_init_24 (by decide) ?_
  refine z_newI (N' := 8) hx hb (hts _ (List.mem_of_getElem? (i := 8) rfl)) hK hP hD hS hA (by decide) (by decide) (by decide) (Nat.le_of_ble_eq_true rfl) (Nat.le_of_ble_eq_true rfl) dX4_init_26 (fun q26 H hP hD hS => ?_)
  have hP : va_P D vwCl ((([(h0, .inr (4, [.ref q5, .ref q18, .null, .null, .null]))] ++ (zc_5 k q5 u9.1 u9.2)) ++ [(q18, .inl (k 0, 8, .inl (fun _ => 0)))]) ++ [(q26, .inl (k 0, 8, .inl (fun _ => 0)))]) H := hP
  have hD : va_D A ((([(h0, .inr (4, [.ref q5, .ref q18, .null, .null, .null]))] ++ (zc_5 k q5 u9.1 u9.2)) ++ [(q18, .inl (k 0, 8, .inl (fun _ => 0)))]) ++ [(q26, .inl (k 0, 8, .inl (fun _ => 0)))]) := hD
  refine va_putF (D := D) (ci := 4) (v := .ref q26) (ty := .array .int) (C := RX4) (T := TX4) (N := 5) hx hb hts i4 tyX4 tyX4_ok nmX4 hown hK.1 hP hD hS 0 rfl rfl 2 (by decide) (hts _ (List.mem_of_getElem? (i := 10) rfl)) (fun _ h9 => h9) rfl hin rfl (by decide +kernel) rfl rfl (Nat.le_of_ble_eq_true rfl) dX4_init_28 (fun H locs hP hD hS => ?_)
  have hP : va_P D vwCl ((([(h0, .inr (4, [.ref q5, .ref q18, .ref q26, .null, .null]))] ++ (zc_5 k q5 u9.1 u9.2)) ++ [(q18, .inl (k 0, 8, .inl (fun _ => 0)))]) ++ [(q26, .inl (k 0, 8, .inl (fun _ => 0)))]) H := hP
  have hD : va_D A ((([(h0, .inr (4, [.ref q5, .ref q18, .ref q26, .null, .null]))] ++ (zc_5 k q5 u9.1 u9.2)) ++ [(q18, .inl (k 0, 8, .inl (fun _ => 0)))]) ++ [(q26, .inl (k 0, 8, .inl (fun _ => 0)))]) := hD
  refine lv_aload_n hx hb dX4_init_31 rfl (lv_at hl 0 rfl) ?_
  refine lv_bipush (v := (10 : Int32)) hx hb dX4_init_32 (by decide) ?_
  refine z_newI (N' := 10) hx hb (hts _ (List.mem_of_getElem? (i := 8) rfl)) hK hP hD hS hA (by decide) (by decide) (by decide) (Nat.le_of_ble_eq_true rfl) (Nat.le_of_ble_eq_true rfl) dX4_init_34 (fun q34 H hP hD hS => ?_)
  have hP : va_P D vwCl (((([(h0, .inr (4, [.ref q5, .ref q18, .ref q26, .null, .null]))] ++ (zc_5 k q5 u9.1 u9.2)) ++ [(q18, .inl (k 0, 8, .inl (fun _ => 0)))]) ++ [(q26, .inl (k 0, 8, .inl (fun _ => 0)))]) ++ [(q34, .inl (k 0, 10, .inl (fun _ => 0)))]) H := hP
  have hD : va_D A (((([(h0, .inr (4, [.ref q5, .ref q18, .ref q26, .null, .null]))] ++ (zc_5 k q5 u9.1 u9.2)) ++ [(q18, .inl (k 0, 8, .inl (fun _ => 0)))]) ++ [(q26, .inl (k 0, 8, .inl (fun _ => 0)))]) ++ [(q34, .inl (k 0, 10, .inl (fun _ => 0)))]) := hD
  refine va_putF (D := D) (ci := 4) (v := .ref q34) (ty := .array .int) (C := RX4) (T := TX4) (N := 5) hx hb hts i4 tyX4 tyX4_ok nmX4 hown hK.1 hP hD hS 0 rfl rfl 3 (by decide) (hts _ (List.mem_of_getElem? (i := 11) rfl)) (fun _ h9 => h9) rfl hin rfl (by decide +kernel) rfl rfl (Nat.le_of_ble_eq_true rfl) dX4_init_36 (fun H locs hP hD hS => ?_)
  have hP : va_P D vwCl (((([(h0, .inr (4, [.ref q5, .ref q18, .ref q26, .ref q34, .null]))] ++ (zc_5 k q5 u9.1 u9.2)) ++ [(q18, .inl (k 0, 8, .inl (fun _ => 0)))]) ++ [(q26, .inl (k 0, 8, .inl (fun _ => 0)))]) ++ [(q34, .inl (k 0, 10, .inl (fun _ => 0)))]) H := hP
  have hD : va_D A (((([(h0, .inr (4, [.ref q5, .ref q18, .ref q26, .ref q34, .null]))] ++ (zc_5 k q5 u9.1 u9.2)) ++ [(q18, .inl (k 0, 8, .inl (fun _ => 0)))]) ++ [(q26, .inl (k 0, 8, .inl (fun _ => 0)))]) ++ [(q34, .inl (k 0, 10, .inl (fun _ => 0)))]) := hD
  refine lv_aload_n hx hb dX4_init_39 rfl (lv_at hl 0 rfl) ?_
  refine lv_bipush (v := (10 : Int32)) hx hb dX4_init_40 (by decide) ?_
  refine z_newI (N' := 10) hx hb (hts _ (List.mem_of_getElem? (i := 8) rfl)) hK hP hD hS hA (by decide) (by decide) (by decide) (Nat.le_of_ble_eq_true rfl) (Nat.le_of_ble_eq_true rfl) dX4_init_42 (fun q42 H hP hD hS => ?_)
  have hP : va_P D vwCl ((((([(h0, .inr (4, [.ref q5, .ref q18, .ref q26, .ref q34, .null]))] ++ (zc_5 k q5 u9.1 u9.2)) ++ [(q18, .inl (k 0, 8, .inl (fun _ => 0)))]) ++ [(q26, .inl (k 0, 8, .inl (fun _ => 0)))]) ++ [(q34, .inl (k 0, 10, .inl (fun _ => 0)))]) ++ [(q42, .inl (k 0, 10, .inl (fun _ => 0)))]) H := hP
  have hD : va_D A ((((([(h0, .inr (4, [.ref q5, .ref q18, .ref q26, .ref q34, .null]))] ++ (zc_5 k q5 u9.1 u9.2)) ++ [(q18, .inl (k 0, 8, .inl (fun _ => 0)))]) ++ [(q26, .inl (k 0, 8, .inl (fun _ => 0)))]) ++ [(q34, .inl (k 0, 10, .inl (fun _ => 0)))]) ++ [(q42, .inl (k 0, 10, .inl (fun _ => 0)))]) := hD
  refine va_putF (D := D) (ci := 4) (v := .ref q42) (ty := .array .int) (C := RX4) (T := TX4) (N := 5) hx hb hts i4 tyX4 tyX4_ok nmX4 hown hK.1 hP hD hS 0 rfl rfl 4 (by decide) (hts _ (List.mem_of_getElem? (i := 12) rfl)) (fun _ h9 => h9) rfl hin rfl (by decide +kernel) rfl rfl (Nat.le_of_ble_eq_true rfl) dX4_init_44 (fun H locs hP hD hS => ?_)
  have hP : va_P D vwCl ((((([(h0, .inr (4, [.ref q5, .ref q18, .ref q26, .ref q34, .ref q42]))] ++ (zc_5 k q5 u9.1 u9.2)) ++ [(q18, .inl (k 0, 8, .inl (fun _ => 0)))]) ++ [(q26, .inl (k 0, 8, .inl (fun _ => 0)))]) ++ [(q34, .inl (k 0, 10, .inl (fun _ => 0)))]) ++ [(q42, .inl (k 0, 10, .inl (fun _ => 0)))]) H := hP
  have hD : va_D A ((((([(h0, .inr (4, [.ref q5, .ref q18, .ref q26, .ref q34, .ref q42]))] ++ (zc_5 k q5 u9.1 u9.2)) ++ [(q18, .inl (k 0, 8, .inl (fun _ => 0)))]) ++ [(q26, .inl (k 0, 8, .inl (fun _ => 0)))]) ++ [(q34, .inl (k 0, 10, .inl (fun _ => 0)))]) ++ [(q42, .inl (k 0, 10, .inl (fun _ => 0)))]) := hD
  refine W.widen (k := 19) (n := 178) (Nat.le_of_ble_eq_true rfl) (Nat.le_of_ble_eq_true rfl) ?_
  exact W.vret hx hb hr (fun t ht hW => ⟨⟨(fun i => [q5, u9.1 0, u9.1 1, u9.1 2, u9.1 3, u9.1 4, u9.1 5, q18, q26, q34, q42].getD i 0, u9.2), rfl, trivial, by rw [ht]; exact hP, hD⟩, hS.F ht⟩) hS.2.2 dX4_init_47
def zc_6 (k : Nat → ClassId) (h0 : Nat) (q : Nat → Nat) (v : Nat → (Nat → Nat) × (Nat → Nat)) : va_W := (((((([(h0, .inr (6, [.ref (q 0), .ref ((v 0).1 0), .ref (q 1), .ref (q 2), .ref (q 3), .ref (q 4), .ref (q 5), .int (0 : Int32)]))] ++ (zc_4 k (q 0) (v 0).1 (v 0).2)) ++ (zc_1 k (q 1) (v 1).1 (v 1).2)) ++ (zc_2 k (q 2) (v 2).1 (v 2).2)) ++ (zc_3 k (q 3) (v 3).1 (v 3).2)) ++ (zc_0 k (q 4) (v 4).1 (v 4).2)) ++ [(q 5, .inl (k 0, 10, .inl (fun _ => 0)))])
abbrev rm_X6_init : Room := { frames := 3, cells := 60, slots := 3802, locals := 71 }
set_option maxHeartbeats 8000000 in
set_option maxRecDepth 100000 in
theorem c_X6_init (l : Launch) (D : va_G) (k : Nat → ClassId) (h0 : Nat) (sz : Nat) : Met l yX6_init wsX6_init rm_X6_init (va_Pc [.ref h0] (fun U => U.heap.size = sz ∧ va_P D vwCl [(h0, .inr (6, [.null, .null, .null, .null, .null, .null, .null, .int 0]))] U.heap ∧ zK0 D k U ∧ va_D (fun _ => True) [(h0, .inr (6, [.null, .null, .null, .null, .null, .null, .null, .int 0]))] ∧ ∀ w ∈ znests, va_Nw w U)) (va_Qv (fun _ : (Nat → Nat) × (Nat → (Nat → Nat) × (Nat → Nat)) => True) (fun u t => va_P D vwCl (zc_6 k h0 u.1 u.2) t.heap ∧ va_D (va_A [(h0, .inr (6, [.null, .null, .null, .null, .null, .null, .null, .int 0]))] sz) (zc_6 k h0 u.1 u.2)) (va_A [(h0, .inr (6, [.null, .null, .null, .null, .null, .null, .null, .int 0]))] sz)) 60 3802 (va_A [(h0, .inr (6, [.null, .null, .null, .null, .null, .null, .null, .int 0]))] sz) := by
  refine Met.ofW (cc := cX6_init) (maxL := 1) (ret := none) (by decide) rfl ?_
  intro p e s m args below meth c s₁ B hml hv
  obtain ⟨rfl, hsz, hP, hK, hD0, hN⟩ := hv
  have hx := B.exec
  have hb := B.bytes
  have hr := B.returns
  have hts := atoms_spec (ws := wsX6_init) B.pre
  have hown : s.vm.findClass RX6 = some m.cls := findClass_of_methodNamed B.named
  have hlocks := B.notSynchronized
  have hin : meth.name = "<init>" := (name_of_methodNamed B.named B.method).1
  subst hsz
  have hD := hD0.self (sz := s.heap.size)
  generalize hAe : va_A [(h0, .inr (6, [.null, .null, .null, .null, .null, .null, .null, .int 0]))] s.heap.size = A at hD ⊢
  have hA : ∀ q : Nat, s.heap.size ≤ q → A q := fun q h => by rw [← hAe]; exact Or.inr h
  have hS : va_S A s.heap s.heap [] := va_S.rf
  have i0 : ∀ w ∈ wsX00, w ∈ wsX6_init := fun _ h => (List.mem_cons_of_mem _ (List.mem_append_left _ (List.mem_append_right _ h)))
  have i1 : ∀ w ∈ wsX10, w ∈ wsX6_init := fun _ h => (List.mem_cons_of_mem _ (List.mem_append_left _ (List.mem_append_left _ (List.mem_append_left _ (List.mem_append_left _ (List.mem_append_right _ h))))))
  have i2 : ∀ w ∈ wsX20, w ∈ wsX6_init := fun _ h => (List.mem_cons_of_mem _ (List.mem_append_left _ (List.mem_append_left _ (List.mem_append_left _ (List.mem_append_right _ h)))))
  have i3 : ∀ w ∈ wsX30, w ∈ wsX6_init := fun _ h => (List.mem_cons_of_mem _ (List.mem_append_left _ (List.mem_append_left _ (List.mem_append_right _ h))))
  have i4 : ∀ w ∈ wsX40, w ∈ wsX6_init := fun _ h => (List.mem_cons_of_mem _ (List.mem_append_left _ (List.mem_append_left _ (List.mem_append_left _ (List.mem_append_left _ (List.mem_append_left _ (List.mem_append_left _ (List.mem_append_right _ h))))))))
  have i6 : ∀ w ∈ wsX60, w ∈ wsX6_init := fun _ h => (List.mem_cons_of_mem _ (List.mem_append_left _ (List.mem_append_left _ (List.mem_append_left _ (List.mem_append_left _ (List.mem_append_left _ (List.mem_append_right _ h)))))))
  have hl := lv_entry ([.ref h0]) (n := 1) (Nat.le_of_ble_eq_true rfl)
  rw [lg_entry_eq]
  generalize (lg_sl ([.ref h0]) ++ List.replicate (1 - (lg_sl ([.ref h0])).length) Slot.unset).toArray = ls at hl ⊢
  have hl : lv_has ls 1 [(0, .ref h0)] := hl
  refine lv_aload_n hx hb dX6_init_0 rfl (lv_at hl 0 rfl) ?_
  refine W.objInit hx hb hown (hts _ (List.mem_of_getElem? (i := 1) rfl)) (hts _ (List.mem_of_getElem? (i := 2) rfl)) (hts _ (List.mem_of_getElem? (i := 3) rfl)) rfl (by rw [hml]; exact hl.1) rfl dX6_init_1 (Nat.le_of_ble_eq_true rfl) (Nat.le_of_ble_eq_true rfl) ?_
  refine W.eq (g2 := F0 m 4 ls []) rfl ?_
  refine lv_aload_n hx hb dX6_init_4 rfl (lv_at hl 0 rfl) ?_
  refine va_new (ci := 4) (fs := [.null, .null, .null, .null, .null]) (C := RX4) (T := TX4) (N := 5) hx hb hts i4 tyX4 tyX4_ok hown (hts _ (List.mem_of_getElem? (i := 4) rfl)) (hts _ (List.mem_of_getElem? (i := 5) rfl)) (hts _ (List.mem_of_getElem? (i := 6) rfl)) hK.1 hP hD hS hA rfl (fun j hj => by rcases (show j = 0 ∨ j = 1 ∨ j = 2 ∨ j = 3 ∨ j = 4 by omega) with rfl | rfl | rfl | rfl | rfl <;> rfl) (Nat.le_of_ble_eq_true rfl) (Nat.le_of_ble_eq_true rfl) dX6_init_5 (fun q5 H hP hD hS => ?_)
  have hP : va_P D vwCl ([(h0, .inr (6, [.null, .null, .null, .null, .null, .null, .null, .int 0]))] ++ [(q5, .inr (4, [.null, .null, .null, .null, .null]))]) H := hP
  have hD : va_D A ([(h0, .inr (6, [.null, .null, .null, .null, .null, .null, .null, .int 0]))] ++ [(q5, .inr (4, [.null, .null, .null, .null, .null]))]) := hD
  refine lv_dup hx hb dX6_init_8 rfl ?_
  have hPc := hP.sub (ws' := [(q5, .inr (4, [.null, .null, .null, .null, .null]))]) [1] rfl
  have hDc := hD.sub (ws' := [(q5, .inr (4, [.null, .null, .null, .null, .null]))]) [1] (by decide) rfl
  have hFc := va_free (wc := [(q5, .inr (4, [.null, .null, .null, .null, .null]))]) hD hS hA [1] rfl
  refine va_callv (va_runIN (As := []) (rest := [.ref q5, .ref h0]) ⟨hx, hb, hml, hown, hts⟩ (c_X4_init l D k q5 H.size) ⟨va_cnB 0 hts gX6_init_X4_init_n11 rfl rfl rfl (hN _ (List.mem_of_getElem? (i := 0) rfl)) (hts _ (List.mem_of_getElem? (i := 6) rfl)) (by decide +kernel) ⟨(Nat.le_of_ble_eq_true rfl), (Nat.le_of_ble_eq_true rfl)⟩, rfl, hts _ (List.mem_of_getElem? (i := 29) rfl)⟩ ⟨zPs_blind, zPs_pre hK (hN _ (List.mem_of_getElem? (i := 5) rfl)) hPc hDc⟩ rfl rfl hl.1 rfl (lv_room (Nat.le_of_ble_eq_true rfl)) dX6_init_9 ⟨(Nat.le_of_ble_eq_true rfl), (Nat.le_of_ble_eq_true rfl)⟩) hS (fun q _ h => hFc q h) hFc (fun u9 t H1 locs ht hvm hw hB hz1 hk1 hS => ?_)
  obtain ⟨hP1, hD1⟩ := hB
  rw [ht] at hP1
  obtain ⟨hP, hD⟩ := va_join (wr := [(h0, .inr (6, [.null, .null, .null, .null, .null, .null, .null, .int 0]))]) (w1 := zc_4 k q5 u9.1 u9.2) hP hD [1] [0] rfl rfl (by decide) (by decide) hk1 hFc hP1 hD1
  generalize H1 = H at hP hS ⊢
  have hP : va_P D vwCl ([(h0, .inr (6, [.null, .null, .null, .null, .null, .null, .null, .int 0]))] ++ (zc_4 k q5 u9.1 u9.2)) H := hP
  have hD : va_D A ([(h0, .inr (6, [.null, .null, .null, .null, .null, .null, .null, .int 0]))] ++ (zc_4 k q5 u9.1 u9.2)) := hD
  refine va_putF (D := D) (ci := 6) (v := .ref q5) (ty := .object "FlowParts$Shape") (C := RX6) (T := TX6) (N := 8) hx hb hts i6 tyX6 tyX6_ok nmX6 hown hK.1 hP hD hS 0 rfl rfl 0 (by decide) (hts _ (List.mem_of_getElem? (i := 7) rfl)) (fun _ h9 => h9) rfl hin rfl (by decide +kernel) rfl rfl (Nat.le_of_ble_eq_true rfl) dX6_init_12 (fun H locs hP hD hS => ?_)
  have hP : va_P D vwCl ([(h0, .inr (6, [.ref q5, .null, .null, .null, .null, .null, .null, .int 0]))] ++ (zc_4 k q5 u9.1 u9.2)) H := hP
  have hD : va_D A ([(h0, .inr (6, [.ref q5, .null, .null, .null, .null, .null, .null, .int 0]))] ++ (zc_4 k q5 u9.1 u9.2)) := hD
  refine lv_aload_n hx hb dX6_init_15 rfl (lv_at hl 0 rfl) ?_
  refine lv_aload_n hx hb dX6_init_16 rfl (lv_at hl 0 rfl) ?_
  refine va_get (D := D) (ci := 6) (v := .ref q5) (C := RX6) (T := TX6) (N := 8) hx hb hts i6 hown hK.1 hP 0 rfl rfl 0 (by decide) (hts _ (List.mem_of_getElem? (i := 7) rfl)) (fun _ h9 => h9) rfl dX6_init_17 ?_
  refine va_get (D := D) (ci := 4) (v := .ref (u9.1 0)) (C := RX4) (T := TX4) (N := 5) hx hb hts i4 hown hK.1 hP 1 rfl rfl 0 (by decide) (hts _ (List.mem_of_getElem? (i := 8) rfl)) (fun _ h9 => h9) rfl dX6_init_20 ?_
  refine va_putF (D := D) (ci := 6) (v := .ref (u9.1 0)) (ty := .object "FlowParts$Whole") (C := RX6) (T := TX6) (N := 8) hx hb hts i6 tyX6 tyX6_ok nmX6 hown hK.1 hP hD hS 0 rfl rfl 1 (by decide) (hts _ (List.mem_of_getElem? (i := 9) rfl)) (fun _ h9 => h9) rfl hin rfl (by decide +kernel) rfl rfl (Nat.le_of_ble_eq_true rfl) dX6_init_23 (fun H locs hP hD hS => ?_)
  have hP : va_P D vwCl ([(h0, .inr (6, [.ref q5, .ref (u9.1 0), .null, .null, .null, .null, .null, .int 0]))] ++ (zc_4 k q5 u9.1 u9.2)) H := hP
  have hD : va_D A ([(h0, .inr (6, [.ref q5, .ref (u9.1 0), .null, .null, .null, .null, .null, .int 0]))] ++ (zc_4 k q5 u9.1 u9.2)) := hD
  refine lv_aload_n hx hb dX6_init_26 rfl (lv_at hl 0 rfl) ?_
  refine va_new (ci := 1) (fs := [.int 0, .null, .null, .null, .null, .null, .null, .null, .null, .null, .null, .null]) (C := RX1) (T := TX1) (N := 12) hx hb hts i1 tyX1 tyX1_ok hown (hts _ (List.mem_of_getElem? (i := 10) rfl)) (hts _ (List.mem_of_getElem? (i := 11) rfl)) (hts _ (List.mem_of_getElem? (i := 12) rfl)) hK.1 hP hD hS hA rfl (fun j hj => by rcases (show j = 0 ∨ j = 1 ∨ j = 2 ∨ j = 3 ∨ j = 4 ∨ j = 5 ∨ j = 6 ∨ j = 7 ∨ j = 8 ∨ j = 9 ∨ j = 10 ∨ j = 11 by omega) with rfl | rfl | rfl | rfl | rfl | rfl | rfl | rfl | rfl | rfl | rfl | rfl <;> rfl) (Nat.le_of_ble_eq_true rfl) (Nat.le_of_ble_eq_true rfl) dX6_init_27 (fun q27 H hP hD hS => ?_)
  have hP : va_P D vwCl (([(h0, .inr (6, [.ref q5, .ref (u9.1 0), .null, .null, .null, .null, .null, .int 0]))] ++ (zc_4 k q5 u9.1 u9.2)) ++ [(q27, .inr (1, [.int 0, .null, .null, .null, .null, .null, .null, .null, .null, .null, .null, .null]))]) H := hP
  have hD : va_D A (([(h0, .inr (6, [.ref q5, .ref (u9.1 0), .null, .null, .null, .null, .null, .int 0]))] ++ (zc_4 k q5 u9.1 u9.2)) ++ [(q27, .inr (1, [.int 0, .null, .null, .null, .null, .null, .null, .null, .null, .null, .null, .null]))]) := hD
  refine lv_dup hx hb dX6_init_30 rfl ?_
  have hPc := hP.sub (ws' := [(q27, .inr (1, [.int 0, .null, .null, .null, .null, .null, .null, .null, .null, .null, .null, .null]))]) [21] rfl
  have hDc := hD.sub (ws' := [(q27, .inr (1, [.int 0, .null, .null, .null, .null, .null, .null, .null, .null, .null, .null, .null]))]) [21] (by decide) rfl
  have hFc := va_free (wc := [(q27, .inr (1, [.int 0, .null, .null, .null, .null, .null, .null, .null, .null, .null, .null, .null]))]) hD hS hA [21] rfl
  refine va_callv (va_runIN (As := []) (rest := [.ref q27, .ref h0]) ⟨hx, hb, hml, hown, hts⟩ (c_X1_init l D k q27 H.size) ⟨va_cnB 0 hts gX6_init_X1_init_n23 rfl rfl rfl (hN _ (List.mem_of_getElem? (i := 1) rfl)) (hts _ (List.mem_of_getElem? (i := 12) rfl)) (by decide +kernel) ⟨(Nat.le_of_ble_eq_true rfl), (Nat.le_of_ble_eq_true rfl)⟩, rfl, hts _ (List.mem_of_getElem? (i := 50) rfl)⟩ ⟨zPk_blind, zPk_pre hK hPc hDc⟩ rfl rfl hl.1 rfl (lv_room (Nat.le_of_ble_eq_true rfl)) dX6_init_31 ⟨(Nat.le_of_ble_eq_true rfl), (Nat.le_of_ble_eq_true rfl)⟩) hS (fun q _ h => hFc q h) hFc (fun u31 t H1 locs ht hvm hw hB hz1 hk1 hS => ?_)
  obtain ⟨hP1, hD1⟩ := hB
  rw [ht] at hP1
  obtain ⟨hP, hD⟩ := va_join (wr := ([(h0, .inr (6, [.ref q5, .ref (u9.1 0), .null, .null, .null, .null, .null, .int 0]))] ++ (zc_4 k q5 u9.1 u9.2))) (w1 := zc_1 k q27 u31.1 u31.2) hP hD [21] [0, 1, 2, 3, 4, 5, 6, 7, 8, 9, 10, 11, 12, 13, 14, 15, 16, 17, 18, 19, 20] rfl rfl (by decide) (by decide) hk1 hFc hP1 hD1
  generalize H1 = H at hP hS ⊢
  have hP : va_P D vwCl (([(h0, .inr (6, [.ref q5, .ref (u9.1 0), .null, .null, .null, .null, .null, .int 0]))] ++ (zc_4 k q5 u9.1 u9.2)) ++ (zc_1 k q27 u31.1 u31.2)) H := hP
  have hD : va_D A (([(h0, .inr (6, [.ref q5, .ref (u9.1 0), .null, .null, .null, .null, .null, .int 0]))] ++ (zc_4 k q5 u9.1 u9.2)) ++ (zc_1 k q27 u31.1 u31.2)) := hD
  refine va_putF (D := D) (ci := 6) (v := .ref q27) (ty := .object "FlowParts$Network") (C := RX6) (T := TX6) (N := 8) hx hb hts i6 tyX6 tyX6_ok nmX6 hown hK.1 hP hD hS 0 rfl rfl 2 (by decide) (hts _ (List.mem_of_getElem? (i := 13) rfl)) (fun _ h9 => h9) rfl hin rfl (by decide +kernel) rfl rfl (Nat.le_of_ble_eq_true rfl) dX6_init_34 (fun H locs hP hD hS => ?_)
  have hP : va_P D vwCl (([(h0, .inr (6, [.ref q5, .ref (u9.1 0), .ref q27, .null, .null, .null, .null, .int 0]))] ++ (zc_4 k q5 u9.1 u9.2)) ++ (zc_1 k q27 u31.1 u31.2)) H := hP
  have hD : va_D A (([(h0, .inr (6, [.ref q5, .ref (u9.1 0), .ref q27, .null, .null, .null, .null, .int 0]))] ++ (zc_4 k q5 u9.1 u9.2)) ++ (zc_1 k q27 u31.1 u31.2)) := hD
  refine lv_aload_n hx hb dX6_init_37 rfl (lv_at hl 0 rfl) ?_
  refine va_new (ci := 2) (fs := [.null, .null, .null]) (C := RX2) (T := TX2) (N := 3) hx hb hts i2 tyX2 tyX2_ok hown (hts _ (List.mem_of_getElem? (i := 14) rfl)) (hts _ (List.mem_of_getElem? (i := 15) rfl)) (hts _ (List.mem_of_getElem? (i := 16) rfl)) hK.1 hP hD hS hA rfl (fun j hj => by rcases (show j = 0 ∨ j = 1 ∨ j = 2 by omega) with rfl | rfl | rfl <;> rfl) (Nat.le_of_ble_eq_true rfl) (Nat.le_of_ble_eq_true rfl) dX6_init_38 (fun q38 H hP hD hS => ?_)
  have hP : va_P D vwCl ((([(h0, .inr (6, [.ref q5, .ref (u9.1 0), .ref q27, .null, .null, .null, .null, .int 0]))] ++ (zc_4 k q5 u9.1 u9.2)) ++ (zc_1 k q27 u31.1 u31.2)) ++ [(q38, .inr (2, [.null, .null, .null]))]) H := hP
  have hD : va_D A ((([(h0, .inr (6, [.ref q5, .ref (u9.1 0), .ref q27, .null, .null, .null, .null, .int 0]))] ++ (zc_4 k q5 u9.1 u9.2)) ++ (zc_1 k q27 u31.1 u31.2)) ++ [(q38, .inr (2, [.null, .null, .null]))]) := hD
  refine lv_dup hx hb dX6_init_41 rfl ?_
  have hPc := hP.sub (ws' := [(q38, .inr (2, [.null, .null, .null]))]) [33] rfl
  have hDc := hD.sub (ws' := [(q38, .inr (2, [.null, .null, .null]))]) [33] (by decide) rfl
  have hFc := va_free (wc := [(q38, .inr (2, [.null, .null, .null]))]) hD hS hA [33] rfl
  refine va_callv (va_runIN (As := []) (rest := [.ref q38, .ref h0]) ⟨hx, hb, hml, hown, hts⟩ (c_X2_init l D k q38 H.size) ⟨va_cnB 0 hts gX6_init_X2_init_n30 rfl rfl rfl (hN _ (List.mem_of_getElem? (i := 2) rfl)) (hts _ (List.mem_of_getElem? (i := 16) rfl)) (by decide +kernel) ⟨(Nat.le_of_ble_eq_true rfl), (Nat.le_of_ble_eq_true rfl)⟩, rfl, hts _ (List.mem_of_getElem? (i := 65) rfl)⟩ ⟨zPk_blind, zPk_pre hK hPc hDc⟩ rfl rfl hl.1 rfl (lv_room (Nat.le_of_ble_eq_true rfl)) dX6_init_42 ⟨(Nat.le_of_ble_eq_true rfl), (Nat.le_of_ble_eq_true rfl)⟩) hS (fun q _ h => hFc q h) hFc (fun u42 t H1 locs ht hvm hw hB hz1 hk1 hS => ?_)
  obtain ⟨hP1, hD1⟩ := hB
  rw [ht] at hP1
  obtain ⟨hP, hD⟩ := va_join (wr := (([(h0, .inr (6, [.ref q5, .ref (u9.1 0), .ref q27, .null, .null, .null, .null, .int 0]))] ++ (zc_4 k q5 u9.1 u9.2)) ++ (zc_1 k q27 u31.1 u31.2))) (w1 := zc_2 k q38 u42.1 u42.2) hP hD [33] [0, 1, 2, 3, 4, 5, 6, 7, 8, 9, 10, 11, 12, 13, 14, 15, 16, 17, 18, 19, 20, 21, 22, 23, 24, 25, 26, 27, 28, 29, 30, 31, 32] rfl rfl (by decide) (by decide) hk1 hFc hP1 hD1
  generalize H1 = H at hP hS ⊢
  have hP : va_P D vwCl ((([(h0, .inr (6, [.ref q5, .ref (u9.1 0), .ref q27, .null, .null, .null, .null, .int 0]))] ++ (zc_4 k q5 u9.1 u9.2)) ++ (zc_1 k q27 u31.1 u31.2)) ++ (zc_2 k q38 u42.1 u42.2)) H := hP
  have hD : va_D A ((([(h0, .inr (6, [.ref q5, .ref (u9.1 0), .ref q27, .null, .null, .null, .null, .int 0]))] ++ (zc_4 k q5 u9.1 u9.2)) ++ (zc_1 k q27 u31.1 u31.2)) ++ (zc_2 k q38 u42.1 u42.2)) := hD
  refine va_putF (D := D) (ci := 6) (v := .ref q38) (ty := .object "FlowParts$Prices") (C := RX6) (T := TX6) (N := 8) hx hb hts i6 tyX6 tyX6_ok nmX6 hown hK.1 hP hD hS 0 rfl rfl 3 (by decide) (hts _ (List.mem_of_getElem? (i := 17) rfl)) (fun _ h9 => h9) rfl hin rfl (by decide +kernel) rfl rfl (Nat.le_of_ble_eq_true rfl) dX6_init_45 (fun H locs hP hD hS => ?_)
  have hP : va_P D vwCl ((([(h0, .inr (6, [.ref q5, .ref (u9.1 0), .ref q27, .ref q38, .null, .null, .null, .int 0]))] ++ (zc_4 k q5 u9.1 u9.2)) ++ (zc_1 k q27 u31.1 u31.2)) ++ (zc_2 k q38 u42.1 u42.2)) H := hP
  have hD : va_D A ((([(h0, .inr (6, [.ref q5, .ref (u9.1 0), .ref q27, .ref q38, .null, .null, .null, .int 0]))] ++ (zc_4 k q5 u9.1 u9.2)) ++ (zc_1 k q27 u31.1 u31.2)) ++ (zc_2 k q38 u42.1 u42.2)) := hD
  refine lv_aload_n hx hb dX6_init_48 rfl (lv_at hl 0 rfl) ?_
  refine va_new (ci := 3) (fs := [.int 0, .int 0]) (C := RX3) (T := TX3) (N := 2) hx hb hts i3 tyX3 tyX3_ok hown (hts _ (List.mem_of_getElem? (i := 18) rfl)) (hts _ (List.mem_of_getElem? (i := 19) rfl)) (hts _ (List.mem_of_getElem? (i := 20) rfl)) hK.1 hP hD hS hA rfl (fun j hj => by rcases (show j = 0 ∨ j = 1 by omega) with rfl | rfl <;> rfl) (Nat.le_of_ble_eq_true rfl) (Nat.le_of_ble_eq_true rfl) dX6_init_49 (fun q49 H hP hD hS => ?_)
  have hP : va_P D vwCl (((([(h0, .inr (6, [.ref q5, .ref (u9.1 0), .ref q27, .ref q38, .null, .null, .null, .int 0]))] ++ (zc_4 k q5 u9.1 u9.2)) ++ (zc_1 k q27 u31.1 u31.2)) ++ (zc_2 k q38 u42.1 u42.2)) ++ [(q49, .inr (3, [.int 0, .int 0]))]) H := hP
  have hD : va_D A (((([(h0, .inr (6, [.ref q5, .ref (u9.1 0), .ref q27, .ref q38, .null, .null, .null, .int 0]))] ++ (zc_4 k q5 u9.1 u9.2)) ++ (zc_1 k q27 u31.1 u31.2)) ++ (zc_2 k q38 u42.1 u42.2)) ++ [(q49, .inr (3, [.int 0, .int 0]))]) := hD
  refine lv_dup hx hb dX6_init_52 rfl ?_
  have hPc := hP.sub (ws' := [(q49, .inr (3, [.int 0, .int 0]))]) [46] rfl
  have hDc := hD.sub (ws' := [(q49, .inr (3, [.int 0, .int 0]))]) [46] (by decide) rfl
  have hFc := va_free (wc := [(q49, .inr (3, [.int 0, .int 0]))]) hD hS hA [46] rfl
  refine va_callv (va_runIN (As := []) (rest := [.ref q49, .ref h0]) ⟨hx, hb, hml, hown, hts⟩ (c_X3_init l D k q49 H.size) ⟨va_cnB 0 hts gX6_init_X3_init_n37 rfl rfl rfl (hN _ (List.mem_of_getElem? (i := 3) rfl)) (hts _ (List.mem_of_getElem? (i := 20) rfl)) (by decide +kernel) ⟨(Nat.le_of_ble_eq_true rfl), (Nat.le_of_ble_eq_true rfl)⟩, rfl, hts _ (List.mem_of_getElem? (i := 72) rfl)⟩ ⟨zPk_blind, zPk_pre hK hPc hDc⟩ rfl rfl hl.1 rfl (lv_room (Nat.le_of_ble_eq_true rfl)) dX6_init_53 ⟨(Nat.le_of_ble_eq_true rfl), (Nat.le_of_ble_eq_true rfl)⟩) hS (fun q _ h => hFc q h) hFc (fun u53 t H1 locs ht hvm hw hB hz1 hk1 hS => ?_)
  obtain ⟨hP1, hD1⟩ := hB
  rw [ht] at hP1
  obtain ⟨hP, hD⟩ := va_join (wr := ((([(h0, .inr (6, [.ref q5, .ref (u9.1 0), .ref q27, .ref q38, .null, .null, .null, .int 0]))] ++ (zc_4 k q5 u9.1 u9.2)) ++ (zc_1 k q27 u31.1 u31.2)) ++ (zc_2 k q38 u42.1 u42.2))) (w1 := zc_3 k q49 u53.1 u53.2) hP hD [46] [0, 1, 2, 3, 4, 5, 6, 7, 8, 9, 10, 11, 12, 13, 14, 15, 16, 17, 18, 19, 20, 21, 22, 23, 24, 25, 26, 27, 28, 29, 30, 31, 32, 33, 34, 35, 36, 37, 38, 39, 40, 41, 42, 43, 44, 45] rfl rfl (by decide) (by decide) hk1 hFc hP1 hD1
  generalize H1 = H at hP hS ⊢
  have hP : va_P D vwCl (((([(h0, .inr (6, [.ref q5, .ref (u9.1 0), .ref q27, .ref q38, .null, .null, .null, .int 0]))] ++ (zc_4 k q5 u9.1 u9.2)) ++ (zc_1 k q27 u31.1 u31.2)) ++ (zc_2 k q38 u42.1 u42.2)) ++ (zc_3 k q49 u53.1 u53.2)) H := hP
  have hD : va_D A (((([(h0, .inr (6, [.ref q5, .ref (u9.1 0), .ref q27, .ref q38, .null, .null, .null, .int 0]))] ++ (zc_4 k q5 u9.1 u9.2)) ++ (zc_1 k q27 u31.1 u31.2)) ++ (zc_2 k q38 u42.1 u42.2)) ++ (zc_3 k q49 u53.1 u53.2)) := hD
  refine va_putF (D := D) (ci := 6) (v := .ref q49) (ty := .object "FlowParts$Proof") (C := RX6) (T := TX6) (N := 8) hx hb hts i6 tyX6 tyX6_ok nmX6 hown hK.1 hP hD hS 0 rfl rfl 4 (by decide) (hts _ (List.mem_of_getElem? (i := 21) rfl)) (fun _ h9 => h9) rfl hin rfl (by decide +kernel) rfl rfl (Nat.le_of_ble_eq_true rfl) dX6_init_56 (fun H locs hP hD hS => ?_)
  have hP : va_P D vwCl (((([(h0, .inr (6, [.ref q5, .ref (u9.1 0), .ref q27, .ref q38, .ref q49, .null, .null, .int 0]))] ++ (zc_4 k q5 u9.1 u9.2)) ++ (zc_1 k q27 u31.1 u31.2)) ++ (zc_2 k q38 u42.1 u42.2)) ++ (zc_3 k q49 u53.1 u53.2)) H := hP
  have hD : va_D A (((([(h0, .inr (6, [.ref q5, .ref (u9.1 0), .ref q27, .ref q38, .ref q49, .null, .null, .int 0]))] ++ (zc_4 k q5 u9.1 u9.2)) ++ (zc_1 k q27 u31.1 u31.2)) ++ (zc_2 k q38 u42.1 u42.2)) ++ (zc_3 k q49 u53.1 u53.2)) := hD
  refine lv_aload_n hx hb dX6_init_59 rfl (lv_at hl 0 rfl) ?_
  refine va_new (ci := 0) (fs := [.null]) (C := RX0) (T := TX0) (N := 1) hx hb hts i0 tyX0 tyX0_ok hown (hts _ (List.mem_of_getElem? (i := 22) rfl)) (hts _ (List.mem_of_getElem? (i := 23) rfl)) (hts _ (List.mem_of_getElem? (i := 24) rfl)) hK.1 hP hD hS hA rfl (fun j hj => by rcases (show j = 0 by omega) with rfl <;> rfl) (Nat.le_of_ble_eq_true rfl) (Nat.le_of_ble_eq_true rfl) dX6_init_60 (fun q60 H hP hD hS => ?_)
  have hP : va_P D vwCl ((((([(h0, .inr (6, [.ref q5, .ref (u9.1 0), .ref q27, .ref q38, .ref q49, .null, .null, .int 0]))] ++ (zc_4 k q5 u9.1 u9.2)) ++ (zc_1 k q27 u31.1 u31.2)) ++ (zc_2 k q38 u42.1 u42.2)) ++ (zc_3 k q49 u53.1 u53.2)) ++ [(q60, .inr (0, [.null]))]) H := hP
  have hD : va_D A ((((([(h0, .inr (6, [.ref q5, .ref (u9.1 0), .ref q27, .ref q38, .ref q49, .null, .null, .int 0]))] ++ (zc_4 k q5 u9.1 u9.2)) ++ (zc_1 k q27 u31.1 u31.2)) ++ (zc_2 k q38 u42.1 u42.2)) ++ (zc_3 k q49 u53.1 u53.2)) ++ [(q60, .inr (0, [.null]))]) := hD
  refine lv_dup hx hb dX6_init_63 rfl ?_
  have hPc := hP.sub (ws' := [(q60, .inr (0, [.null]))]) [47] rfl
  have hDc := hD.sub (ws' := [(q60, .inr (0, [.null]))]) [47] (by decide) rfl
  have hFc := va_free (wc := [(q60, .inr (0, [.null]))]) hD hS hA [47] rfl
  refine va_callv (va_runIN (As := []) (rest := [.ref q60, .ref h0]) ⟨hx, hb, hml, hown, hts⟩ (c_X0_init l D k q60 H.size) ⟨va_cnB 0 hts gX6_init_X0_init_n44 rfl rfl rfl (hN _ (List.mem_of_getElem? (i := 4) rfl)) (hts _ (List.mem_of_getElem? (i := 24) rfl)) (by decide +kernel) ⟨(Nat.le_of_ble_eq_true rfl), (Nat.le_of_ble_eq_true rfl)⟩, rfl, hts _ (List.mem_of_getElem? (i := 75) rfl)⟩ ⟨zPk_blind, zPk_pre hK hPc hDc⟩ rfl rfl hl.1 rfl (lv_room (Nat.le_of_ble_eq_true rfl)) dX6_init_64 ⟨(Nat.le_of_ble_eq_true rfl), (Nat.le_of_ble_eq_true rfl)⟩) hS (fun q _ h => hFc q h) hFc (fun u64 t H1 locs ht hvm hw hB hz1 hk1 hS => ?_)
  obtain ⟨hP1, hD1⟩ := hB
  rw [ht] at hP1
  obtain ⟨hP, hD⟩ := va_join (wr := (((([(h0, .inr (6, [.ref q5, .ref (u9.1 0), .ref q27, .ref q38, .ref q49, .null, .null, .int 0]))] ++ (zc_4 k q5 u9.1 u9.2)) ++ (zc_1 k q27 u31.1 u31.2)) ++ (zc_2 k q38 u42.1 u42.2)) ++ (zc_3 k q49 u53.1 u53.2))) (w1 := zc_0 k q60 u64.1 u64.2) hP hD [47] [0, 1, 2, 3, 4, 5, 6, 7, 8, 9, 10, 11, 12, 13, 14, 15, 16, 17, 18, 19, 20, 21, 22, 23, 24, 25, 26, 27, 28, 29, 30, 31, 32, 33, 34, 35, 36, 37, 38, 39, 40, 41, 42, 43, 44, 45, 46] rfl rfl (by decide) (by decide) hk1 hFc hP1 hD1
  generalize H1 = H at hP hS ⊢
  have hP : va_P D vwCl ((((([(h0, .inr (6, [.ref q5, .ref (u9.1 0), .ref q27, .ref q38, .ref q49, .null, .null, .int 0]))] ++ (zc_4 k q5 u9.1 u9.2)) ++ (zc_1 k q27 u31.1 u31.2)) ++ (zc_2 k q38 u42.1 u42.2)) ++ (zc_3 k q49 u53.1 u53.2)) ++ (zc_0 k q60 u64.1 u64.2)) H := hP
  have hD : va_D A ((((([(h0, .inr (6, [.ref q5, .ref (u9.1 0), .ref q27, .ref q38, .ref q49, .null, .null, .int 0]))] ++ (zc_4 k q5 u9.1 u9.2)) ++ (zc_1 k q27 u31.1 u31.2)) ++ (zc_2 k q38 u42.1 u42.2)) ++ (zc_3 k q49 u53.1 u53.2)) ++ (zc_0 k q60 u64.1 u64.2)) := hD
  refine va_putF (D := D) (ci := 6) (v := .ref q60) (ty := .object "FlowParts$Knapsack") (C := RX6) (T := TX6) (N := 8) hx hb hts i6 tyX6 tyX6_ok nmX6 hown hK.1 hP hD hS 0 rfl rfl 5 (by decide) (hts _ (List.mem_of_getElem? (i := 25) rfl)) (fun _ h9 => h9) rfl hin rfl (by decide +kernel) rfl rfl (Nat.le_of_ble_eq_true rfl) dX6_init_67 (fun H locs hP hD hS => ?_)
  have hP : va_P D vwCl ((((([(h0, .inr (6, [.ref q5, .ref (u9.1 0), .ref q27, .ref q38, .ref q49, .ref q60, .null, .int 0]))] ++ (zc_4 k q5 u9.1 u9.2)) ++ (zc_1 k q27 u31.1 u31.2)) ++ (zc_2 k q38 u42.1 u42.2)) ++ (zc_3 k q49 u53.1 u53.2)) ++ (zc_0 k q60 u64.1 u64.2)) H := hP
  have hD : va_D A ((((([(h0, .inr (6, [.ref q5, .ref (u9.1 0), .ref q27, .ref q38, .ref q49, .ref q60, .null, .int 0]))] ++ (zc_4 k q5 u9.1 u9.2)) ++ (zc_1 k q27 u31.1 u31.2)) ++ (zc_2 k q38 u42.1 u42.2)) ++ (zc_3 k q49 u53.1 u53.2)) ++ (zc_0 k q60 u64.1 u64.2)) := hD
  refine lv_aload_n hx hb dX6_init_70 rfl (lv_at hl 0 rfl) ?_
  refine lv_bipush (v := (10 : Int32)) hx hb dX6_init_71 (by decide) ?_
  refine z_newI (N' := 10) hx hb (hts _ (List.mem_of_getElem? (i := 26) rfl)) hK hP hD hS hA (by decide) (by decide) (by decide) (Nat.le_of_ble_eq_true rfl) (Nat.le_of_ble_eq_true rfl) dX6_init_73 (fun q73 H hP hD hS => ?_)
  have hP : va_P D vwCl (((((([(h0, .inr (6, [.ref q5, .ref (u9.1 0), .ref q27, .ref q38, .ref q49, .ref q60, .null, .int 0]))] ++ (zc_4 k q5 u9.1 u9.2)) ++ (zc_1 k q27 u31.1 u31.2)) ++ (zc_2 k q38 u42.1 u42.2)) ++ (zc_3 k q49 u53.1 u53.2)) ++ (zc_0 k q60 u64.1 u64.2)) ++ [(q73, .inl (k 0, 10, .inl (fun _ => 0)))]) H := hP
  have hD : va_D A (((((([(h0, .inr (6, [.ref q5, .ref (u9.1 0), .ref q27, .ref q38, .ref q49, .ref q60, .null, .int 0]))] ++ (zc_4 k q5 u9.1 u9.2)) ++ (zc_1 k q27 u31.1 u31.2)) ++ (zc_2 k q38 u42.1 u42.2)) ++ (zc_3 k q49 u53.1 u53.2)) ++ (zc_0 k q60 u64.1 u64.2)) ++ [(q73, .inl (k 0, 10, .inl (fun _ => 0)))]) := hD
  refine va_putF (D := D) (ci := 6) (v := .ref q73) (ty := .array .int) (C := RX6) (T := TX6) (N := 8) hx hb hts i6 tyX6 tyX6_ok nmX6 hown hK.1 hP hD hS 0 rfl rfl 6 (by decide) (hts _ (List.mem_of_getElem? (i := 27) rfl)) (fun _ h9 => h9) rfl hin rfl (by decide +kernel) rfl rfl (Nat.le_of_ble_eq_true rfl) dX6_init_75 (fun H locs hP hD hS => ?_)
  have hP : va_P D vwCl (((((([(h0, .inr (6, [.ref q5, .ref (u9.1 0), .ref q27, .ref q38, .ref q49, .ref q60, .ref q73, .int 0]))] ++ (zc_4 k q5 u9.1 u9.2)) ++ (zc_1 k q27 u31.1 u31.2)) ++ (zc_2 k q38 u42.1 u42.2)) ++ (zc_3 k q49 u53.1 u53.2)) ++ (zc_0 k q60 u64.1 u64.2)) ++ [(q73, .inl (k 0, 10, .inl (fun _ => 0)))]) H := hP
  have hD : va_D A (((((([(h0, .inr (6, [.ref q5, .ref (u9.1 0), .ref q27, .ref q38, .ref q49, .ref q60, .ref q73, .int 0]))] ++ (zc_4 k q5 u9.1 u9.2)) ++ (zc_1 k q27 u31.1 u31.2)) ++ (zc_2 k q38 u42.1 u42.2)) ++ (zc_3 k q49 u53.1 u53.2)) ++ (zc_0 k q60 u64.1 u64.2)) ++ [(q73, .inl (k 0, 10, .inl (fun _ => 0)))]) := hD
  refine lv_aload_n hx hb dX6_init_78 rfl (lv_at hl 0 rfl) ?_
  refine lv_iconst (v := (0 : Int32)) hx hb dX6_init_79 (by decide) ?_
  refine va_put (D := D) (ci := 6) (v := .int (0 : Int32)) (ty := .int) (C := RX6) (T := TX6) (N := 8) hx hb hts i6 tyX6 tyX6_ok nmX6 hown hK.1 hP hD hS 0 rfl rfl 7 (by decide) (hts _ (List.mem_of_getElem? (i := 28) rfl)) (fun _ h9 => h9) rfl (by decide +kernel) rfl rfl (Nat.le_of_ble_eq_true rfl) dX6_init_80 (fun H locs hP hD hS => ?_)
  have hP : va_P D vwCl (((((([(h0, .inr (6, [.ref q5, .ref (u9.1 0), .ref q27, .ref q38, .ref q49, .ref q60, .ref q73, .int (0 : Int32)]))] ++ (zc_4 k q5 u9.1 u9.2)) ++ (zc_1 k q27 u31.1 u31.2)) ++ (zc_2 k q38 u42.1 u42.2)) ++ (zc_3 k q49 u53.1 u53.2)) ++ (zc_0 k q60 u64.1 u64.2)) ++ [(q73, .inl (k 0, 10, .inl (fun _ => 0)))]) H := hP
  have hD : va_D A (((((([(h0, .inr (6, [.ref q5, .ref (u9.1 0), .ref q27, .ref q38, .ref q49, .ref q60, .ref q73, .int (0 : Int32)]))] ++ (zc_4 k q5 u9.1 u9.2)) ++ (zc_1 k q27 u31.1 u31.2)) ++ (zc_2 k q38 u42.1 u42.2)) ++ (zc_3 k q49 u53.1 u53.2)) ++ (zc_0 k q60 u64.1 u64.2)) ++ [(q73, .inl (k 0, 10, .inl (fun _ => 0)))]) := hD
  refine W.widen (k := 60) (n := 3802) (Nat.le_of_ble_eq_true rfl) (Nat.le_of_ble_eq_true rfl) ?_
  exact W.vret hx hb hr (fun t ht hW => ⟨⟨(fun i => [q5, q27, q38, q49, q60, q73].getD i 0, fun i => [u9, u31, u42, u53, u64].getD i (fun _ => 0, fun _ => 0)), rfl, trivial, by rw [ht]; exact hP, hD⟩, hS.F ht⟩) hS.2.2 dX6_init_83
