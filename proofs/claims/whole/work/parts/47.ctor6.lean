/-! FlowParts(): all that the class makes (wip/gen/mkctor3.py) -/
def znests : List Cond := [.methodLinkNest RX6 11 yX5_init RX6, .methodLinkNest RX6 27 yX1_init RX6, .methodLinkNest RX6 34 yX2_init RX6, .methodLinkNest RX6 41 yX3_init RX6, .methodLinkNest RX6 48 yX0_init RX6]
theorem zK0.same {D : va_G} {k : Nat → ClassId} {u U : State} (hv : u.vm = U.vm) (h : zK0 D k u) : zK0 D k U := ⟨va_K.moved (by rw [← hv]; exact Vm.Alike.refl u.vm) h.1, va_AOA.moved (by rw [← hv]; exact Vm.Alike.refl u.vm) h.2⟩
def zPk (D : va_G) (k : Nat → ClassId) (av : List Value) (wc : va_W) (sz : Nat) : Array Value → State → Prop := va_Pc av (fun U => U.heap.size = sz ∧ va_P D vwCl wc U.heap ∧ zK0 D k U ∧ va_D (fun _ => True) wc)
theorem zPk_blind {D : va_G} {k : Nat → ClassId} {av : List Value} {wc : va_W} {sz : Nat} : FrameBlind (zPk D k av wc sz) := fun x U g mk q => by
  obtain ⟨q0, q1, qP, qK, qD⟩ := q
  exact ⟨q0, q1, qP, zK0.same (u := U) (U := U.calling g mk x) rfl qK, qD⟩
theorem zPk_pre {D : va_G} {k : Nat → ClassId} {av : List Value} {wc : va_W} {H : Heap} {s : State} {A : Nat → Prop} (hK : zK0 D k s) (hP : va_P D vwCl wc H) (hD : va_D A wc) : ∀ U : State, U.heap = H → s.WarmedH U.vm → zPk D k av wc H.size av.toArray U := fun U hU hW => ⟨rfl, by rw [hU], by rw [hU]; exact hP, hK.warm hW, hD.weaken (fun _ _ _ _ => trivial)⟩
def zc_6 (k : Nat → ClassId) (h0 : Nat) (q : Nat → Nat) (v : Nat → (Nat → Nat) × (Nat → Nat)) : va_W := ((((((([(h0, .inr (6, [.ref (q 0), .ref (q 1), .ref (q 2), .ref (q 3), .ref (q 4), .ref (q 5), .ref (q 6), .int (0 : Int32)]))] ++ (zc_5 k (q 0) (v 0).1 (v 0).2)) ++ (zc_4 k (q 1) (q 0) (v 1).1 (v 1).2)) ++ (zc_1 k (q 2) (v 2).1 (v 2).2)) ++ (zc_2 k (q 3) (v 3).1 (v 3).2)) ++ (zc_3 k (q 4) (v 4).1 (v 4).2)) ++ (zc_0 k (q 5) (v 5).1 (v 5).2)) ++ [(q 6, .inl (k 0, 10, .inl (fun _ => 0)))])
abbrev rm_X6_init : Room := { frames := 2, cells := 60, slots := 3802, locals := 51 }
set_option maxHeartbeats 8000000 in
set_option maxRecDepth 100000 in
theorem c_X6_init (l : Launch) (D : va_G) (k : Nat → ClassId) (h0 : Nat) (sz : Nat) : Met l yX6_init wsX6_init rm_X6_init (va_Pc [.ref h0] (fun U => U.heap.size = sz ∧ va_P D vwCl [(h0, .inr (6, [.null, .null, .null, .null, .null, .null, .null, .int 0]))] U.heap ∧ zK0 D k U ∧ va_D (fun _ => True) [(h0, .inr (6, [.null, .null, .null, .null, .null, .null, .null, .int 0]))] ∧ ∀ w ∈ znests, va_Nw w U)) (va_Qv (fun _ : (Nat → Nat) × (Nat → (Nat → Nat) × (Nat → Nat)) => True) (fun u t => va_P D vwCl (zc_6 k h0 u.1 u.2) t.heap ∧ va_D (va_A [(h0, .inr (6, [.null, .null, .null, .null, .null, .null, .null, .int 0]))] sz) (zc_6 k h0 u.1 u.2)) (va_A [(h0, .inr (6, [.null, .null, .null, .null, .null, .null, .null, .int 0]))] sz)) 60 3802 (va_A [(h0, .inr (6, [.null, .null, .null, .null, .null, .null, .null, .int 0]))] sz) := by
  refine Met.ofW (cc := cX6_init) (maxL := 1) (ret := none) (by decide) rfl ?_
  intro p e s m args below meth c s₁ B hml hv
  obtain ⟨rfl, hsz, hP, hK, hD0, hN⟩ := hv
  have hx := B.exec
  have hb := B.bytes
  have hr := B.returns
  have hts := atoms_spec (ws := wsX6_init) B.pre
  have hown : s.vm.findClass RX6 = some m.cls := findClass_of_methodNamed B.named
  have hlocks := B.notSynchronized
  have hin : meth.name = "<init>" := (name_of_methodNamed B.named B.method).1
  subst hsz
  have hD := hD0.self (sz := s.heap.size)
  generalize hAe : va_A [(h0, .inr (6, [.null, .null, .null, .null, .null, .null, .null, .int 0]))] s.heap.size = A at hD ⊢
  have hA : ∀ q : Nat, s.heap.size ≤ q → A q := fun q h => by rw [← hAe]; exact Or.inr h
  have hS : va_S A s.heap s.heap [] := va_S.rf
  have i0 : ∀ w ∈ wsX00, w ∈ wsX6_init := fun _ h => (List.mem_cons_of_mem _ (List.mem_append_right _ h))
  have i1 : ∀ w ∈ wsX10, w ∈ wsX6_init := fun _ h => (List.mem_cons_of_mem _ (List.mem_append_left _ (List.mem_append_left _ (List.mem_append_left _ (List.mem_append_right _ h)))))
  have i2 : ∀ w ∈ wsX20, w ∈ wsX6_init := fun _ h => (List.mem_cons_of_mem _ (List.mem_append_left _ (List.mem_append_left _ (List.mem_append_right _ h))))
  have i3 : ∀ w ∈ wsX30, w ∈ wsX6_init := fun _ h => (List.mem_cons_of_mem _ (List.mem_append_left _ (List.mem_append_right _ h)))
  have i4 : ∀ w ∈ wsX40, w ∈ wsX6_init := fun _ h => (List.mem_cons_of_mem _ (List.mem_append_left _ (List.mem_append_left _ (List.mem_append_left _ (List.mem_append_left _ (List.mem_append_right _ h))))))
  have i5 : ∀ w ∈ wsX50, w ∈ wsX6_init := fun _ h => (List.mem_cons_of_mem _ (List.mem_append_left _ (List.mem_append_left _ (List.mem_append_left _ (List.mem_append_left _ (List.mem_append_left _ (List.mem_append_left _ (List.mem_append_right _ h))))))))
  have i6 : ∀ w ∈ wsX60, w ∈ wsX6_init := fun _ h => (List.mem_cons_of_mem _ (List.mem_append_left _ (List.mem_append_left _ (List.mem_append_left _ (List.mem_append_left _ (List.mem_append_left _ (List.mem_append_right _ h)))))))
  have hl := lv_entry ([.ref h0]) (n := 1) (Nat.le_of_ble_eq_true rfl)
  rw [lg_entry_eq]
  generalize (lg_sl ([.ref h0]) ++ List.replicate (1 - (lg_sl ([.ref h0])).length) Slot.unset).toArray = ls at hl ⊢
  have hl : lv_has ls 1 [(0, .ref h0)] := hl
  refine lv_aload_n hx hb dX6_init_0 rfl (lv_at hl 0 rfl) ?_
  refine W.objInit hx hb hown (hts _ (List.mem_of_getElem? (i := 1) rfl)) (hts _ (List.mem_of_getElem? (i := 2) rfl)) (hts _ (List.mem_of_getElem? (i := 3) rfl)) rfl (by rw [hml]; exact hl.1) rfl dX6_init_1 (Nat.le_of_ble_eq_true rfl) (Nat.le_of_ble_eq_true rfl) ?_
  refine W.eq (g2 := F0 m 4 ls []) rfl ?_
  refine lv_aload_n hx hb dX6_init_4 rfl (lv_at hl 0 rfl) ?_
  refine va_new (ci := 5) (fs := [.int 0, .int 0, .null, .null, .null, .null, .null, .null]) (C := RX5) (T := TX5) (N := 8) hx hb hts i5 tyX5 tyX5_ok hown (hts _ (List.mem_of_getElem? (i := 4) rfl)) (hts _ (List.mem_of_getElem? (i := 5) rfl)) (hts _ (List.mem_of_getElem? (i := 6) rfl)) hK.1 hP hD hS hA rfl (fun j hj => by rcases (show j = 0 ∨ j = 1 ∨ j = 2 ∨ j = 3 ∨ j = 4 ∨ j = 5 ∨ j = 6 ∨ j = 7 by omega) with rfl | rfl | rfl | rfl | rfl | rfl | rfl | rfl <;> rfl) (Nat.le_of_ble_eq_true rfl) (Nat.le_of_ble_eq_true rfl) dX6_init_5 (fun q5 H hP hD hS => ?_)
  have hP : va_P D vwCl ([(h0, .inr (6, [.null, .null, .null, .null, .null, .null, .null, .int 0]))] ++ [(q5, .inr (5, [.int 0, .int 0, .null, .null, .null, .null, .null, .null]))]) H := hP
  have hD : va_D A ([(h0, .inr (6, [.null, .null, .null, .null, .null, .null, .null, .int 0]))] ++ [(q5, .inr (5, [.int 0, .int 0, .null, .null, .null, .null, .null, .null]))]) := hD
  refine lv_dup hx hb dX6_init_8 rfl ?_
  have hPc := hP.sub (ws' := [(q5, .inr (5, [.int 0, .int 0, .null, .null, .null, .null, .null, .null]))]) [1] rfl
  have hDc := hD.sub (ws' := [(q5, .inr (5, [.int 0, .int 0, .null, .null, .null, .null, .null, .null]))]) [1] (by decide) rfl
  have hFc := va_free (wc := [(q5, .inr (5, [.int 0, .int 0, .null, .null, .null, .null, .null, .null]))]) hD hS hA [1] rfl
  refine va_callv (va_runIN (As := []) (rest := [.ref q5, .ref h0]) ⟨hx, hb, hml, hown, hts⟩ (c_X5_init l D k q5 H.size) ⟨va_cnB 0 hts gX6_init_X5_init_n11 rfl rfl rfl (hN _ (List.mem_of_getElem? (i := 0) rfl)) (hts _ (List.mem_of_getElem? (i := 6) rfl)) (by decide +kernel) ⟨(Nat.le_of_ble_eq_true rfl), (Nat.le_of_ble_eq_true rfl)⟩, rfl, hts _ (List.mem_of_getElem? (i := 31) rfl)⟩ ⟨zPk_blind, zPk_pre hK hPc hDc⟩ rfl rfl hl.1 rfl (lv_room (Nat.le_of_ble_eq_true rfl)) dX6_init_9 ⟨(Nat.le_of_ble_eq_true rfl), (Nat.le_of_ble_eq_true rfl)⟩) hS (fun q _ h => hFc q h) hFc (fun u9 t H1 locs ht hvm hw hB hz1 hk1 hS => ?_)
  obtain ⟨hP1, hD1⟩ := hB
  rw [ht] at hP1
  obtain ⟨hP, hD⟩ := va_join (wr := [(h0, .inr (6, [.null, .null, .null, .null, .null, .null, .null, .int 0]))]) (w1 := zc_5 k q5 u9.1 u9.2) hP hD [1] [0] rfl rfl (by decide) (by decide) hk1 hFc hP1 hD1
  generalize H1 = H at hP hS ⊢
  have hP : va_P D vwCl ([(h0, .inr (6, [.null, .null, .null, .null, .null, .null, .null, .int 0]))] ++ (zc_5 k q5 u9.1 u9.2)) H := hP
  have hD : va_D A ([(h0, .inr (6, [.null, .null, .null, .null, .null, .null, .null, .int 0]))] ++ (zc_5 k q5 u9.1 u9.2)) := hD
  refine va_putF (D := D) (ci := 6) (v := .ref q5) (ty := .object "FlowParts$Whole") (C := RX6) (T := TX6) (N := 8) hx hb hts i6 tyX6 tyX6_ok nmX6 hown hK.1 hP hD hS 0 rfl rfl 0 (by decide) (hts _ (List.mem_of_getElem? (i := 7) rfl)) (fun _ h9 => h9) rfl hin rfl (by decide +kernel) rfl rfl (Nat.le_of_ble_eq_true rfl) dX6_init_12 (fun H locs hP hD hS => ?_)
  have hP : va_P D vwCl ([(h0, .inr (6, [.ref q5, .null, .null, .null, .null, .null, .null, .int 0]))] ++ (zc_5 k q5 u9.1 u9.2)) H := hP
  have hD : va_D A ([(h0, .inr (6, [.ref q5, .null, .null, .null, .null, .null, .null, .int 0]))] ++ (zc_5 k q5 u9.1 u9.2)) := hD
  refine lv_aload_n hx hb dX6_init_15 rfl (lv_at hl 0 rfl) ?_
  refine va_new (ci := 4) (fs := [.null, .null, .null, .null, .null]) (C := RX4) (T := TX4) (N := 5) hx hb hts i4 tyX4 tyX4_ok hown (hts _ (List.mem_of_getElem? (i := 8) rfl)) (hts _ (List.mem_of_getElem? (i := 9) rfl)) (hts _ (List.mem_of_getElem? (i := 10) rfl)) hK.1 hP hD hS hA rfl (fun j hj => by rcases (show j = 0 ∨ j = 1 ∨ j = 2 ∨ j = 3 ∨ j = 4 by omega) with rfl | rfl | rfl | rfl | rfl <;> rfl) (Nat.le_of_ble_eq_true rfl) (Nat.le_of_ble_eq_true rfl) dX6_init_16 (fun q16 H hP hD hS => ?_)
  have hP : va_P D vwCl (([(h0, .inr (6, [.ref q5, .null, .null, .null, .null, .null, .null, .int 0]))] ++ (zc_5 k q5 u9.1 u9.2)) ++ [(q16, .inr (4, [.null, .null, .null, .null, .null]))]) H := hP
  have hD : va_D A (([(h0, .inr (6, [.ref q5, .null, .null, .null, .null, .null, .null, .int 0]))] ++ (zc_5 k q5 u9.1 u9.2)) ++ [(q16, .inr (4, [.null, .null, .null, .null, .null]))]) := hD
  refine lv_dup hx hb dX6_init_19 rfl ?_
  refine lv_aload_n hx hb dX6_init_20 rfl (lv_at hl 0 rfl) ?_
  refine va_get (D := D) (ci := 6) (v := .ref q5) (C := RX6) (T := TX6) (N := 8) hx hb hts i6 hown hK.1 hP 0 rfl rfl 0 (by decide) (hts _ (List.mem_of_getElem? (i := 7) rfl)) (fun _ h9 => h9) rfl dX6_init_21 ?_
  have hPc := hP.sub (ws' := [(q16, .inr (4, [.null, .null, .null, .null, .null]))]) [16] rfl
  have hDc := hD.sub (ws' := [(q16, .inr (4, [.null, .null, .null, .null, .null]))]) [16] (by decide) rfl
  have hFc := va_free (wc := [(q16, .inr (4, [.null, .null, .null, .null, .null]))]) hD hS hA [16] rfl
  refine va_callv (va_runI (As := [.ref q5]) (rest := [.ref q16, .ref h0]) ⟨hx, hb, hml, hown, hts⟩ (c_X4_init l D k q16 q5 H.size) (cwI 1 hts gX6_init_X4_init rfl rfl rfl (hts _ (List.mem_of_getElem? (i := 10) rfl)) (hts _ (List.mem_of_getElem? (i := 41) rfl)) (hts _ (List.mem_of_getElem? (i := 42) rfl)) rfl (by decide +kernel) ⟨(Nat.le_of_ble_eq_true rfl), (Nat.le_of_ble_eq_true rfl)⟩) ⟨zPk_blind, zPk_pre hK hPc hDc⟩ rfl rfl hl.1 rfl (lv_room (Nat.le_of_ble_eq_true rfl)) dX6_init_24 ⟨(Nat.le_of_ble_eq_true rfl), (Nat.le_of_ble_eq_true rfl)⟩) hS (fun q _ h => hFc q h) hFc (fun u24 t H1 locs ht hvm hw hB hz1 hk1 hS => ?_)
  obtain ⟨hP1, hD1⟩ := hB
  rw [ht] at hP1
  obtain ⟨hP, hD⟩ := va_join (wr := ([(h0, .inr (6, [.ref q5, .null, .null, .null, .null, .null, .null, .int 0]))] ++ (zc_5 k q5 u9.1 u9.2))) (w1 := zc_4 k q16 q5 u24.1 u24.2) hP hD [16] [0, 1, 2, 3, 4, 5, 6, 7, 8, 9, 10, 11, 12, 13, 14, 15] rfl rfl (by decide) (by decide) hk1 hFc hP1 hD1
  generalize H1 = H at hP hS ⊢
  have hP : va_P D vwCl (([(h0, .inr (6, [.ref q5, .null, .null, .null, .null, .null, .null, .int 0]))] ++ (zc_5 k q5 u9.1 u9.2)) ++ (zc_4 k q16 q5 u24.1 u24.2)) H := hP
  have hD : va_D A (([(h0, .inr (6, [.ref q5, .null, .null, .null, .null, .null, .null, .int 0]))] ++ (zc_5 k q5 u9.1 u9.2)) ++ (zc_4 k q16 q5 u24.1 u24.2)) := hD
  refine va_putF (D := D) (ci := 6) (v := .ref q16) (ty := .object "FlowParts$Shape") (C := RX6) (T := TX6) (N := 8) hx hb hts i6 tyX6 tyX6_ok nmX6 hown hK.1 hP hD hS 0 rfl rfl 1 (by decide) (hts _ (List.mem_of_getElem? (i := 11) rfl)) (fun _ h9 => h9) rfl hin rfl (by decide +kernel) rfl rfl (Nat.le_of_ble_eq_true rfl) dX6_init_27 (fun H locs hP hD hS => ?_)
  have hP : va_P D vwCl (([(h0, .inr (6, [.ref q5, .ref q16, .null, .null, .null, .null, .null, .int 0]))] ++ (zc_5 k q5 u9.1 u9.2)) ++ (zc_4 k q16 q5 u24.1 u24.2)) H := hP
  have hD : va_D A (([(h0, .inr (6, [.ref q5, .ref q16, .null, .null, .null, .null, .null, .int 0]))] ++ (zc_5 k q5 u9.1 u9.2)) ++ (zc_4 k q16 q5 u24.1 u24.2)) := hD
  refine lv_aload_n hx hb dX6_init_30 rfl (lv_at hl 0 rfl) ?_
  refine va_new (ci := 1) (fs := [.int 0, .null, .null, .null, .null, .null, .null, .null, .null, .null, .null, .null]) (C := RX1) (T := TX1) (N := 12) hx hb hts i1 tyX1 tyX1_ok hown (hts _ (List.mem_of_getElem? (i := 12) rfl)) (hts _ (List.mem_of_getElem? (i := 13) rfl)) (hts _ (List.mem_of_getElem? (i := 14) rfl)) hK.1 hP hD hS hA rfl (fun j hj => by rcases (show j = 0 ∨ j = 1 ∨ j = 2 ∨ j = 3 ∨ j = 4 ∨ j = 5 ∨ j = 6 ∨ j = 7 ∨ j = 8 ∨ j = 9 ∨ j = 10 ∨ j = 11 by omega) with rfl | rfl | rfl | rfl | rfl | rfl | rfl | rfl | rfl | rfl | rfl | rfl <;> rfl) (Nat.le_of_ble_eq_true rfl) (Nat.le_of_ble_eq_true rfl) dX6_init_31 (fun q31 H hP hD hS => ?_)
  have hP : va_P D vwCl ((([(h0, .inr (6, [.ref q5, .ref q16, .null, .null, .null, .null, .null, .int 0]))] ++ (zc_5 k q5 u9.1 u9.2)) ++ (zc_4 k q16 q5 u24.1 u24.2)) ++ [(q31, .inr (1, [.int 0, .null, .null, .null, .null, .null, .null, .null, .null, .null, .null, .null]))]) H := hP
  have hD : va_D A ((([(h0, .inr (6, [.ref q5, .ref q16, .null, .null, .null, .null, .null, .int 0]))] ++ (zc_5 k q5 u9.1 u9.2)) ++ (zc_4 k q16 q5 u24.1 u24.2)) ++ [(q31, .inr (1, [.int 0, .null, .null, .null, .null, .null, .null, .null, .null, .null, .null, .null]))]) := hD
  refine lv_dup hx hb dX6_init_34 rfl ?_
  have hPc := hP.sub (ws' := [(q31, .inr (1, [.int 0, .null, .null, .null, .null, .null, .null, .null, .null, .null, .null, .null]))]) [21] rfl
  have hDc := hD.sub (ws' := [(q31, .inr (1, [.int 0, .null, .null, .null, .null, .null, .null, .null, .null, .null, .null, .null]))]) [21] (by decide) rfl
  have hFc := va_free (wc := [(q31, .inr (1, [.int 0, .null, .null, .null, .null, .null, .null, .null, .null, .null, .null, .null]))]) hD hS hA [21] rfl
  refine va_callv (va_runIN (As := []) (rest := [.ref q31, .ref h0]) ⟨hx, hb, hml, hown, hts⟩ (c_X1_init l D k q31 H.size) ⟨va_cnB 0 hts gX6_init_X1_init_n27 rfl rfl rfl (hN _ (List.mem_of_getElem? (i := 1) rfl)) (hts _ (List.mem_of_getElem? (i := 14) rfl)) (by decide +kernel) ⟨(Nat.le_of_ble_eq_true rfl), (Nat.le_of_ble_eq_true rfl)⟩, rfl, hts _ (List.mem_of_getElem? (i := 50) rfl)⟩ ⟨zPk_blind, zPk_pre hK hPc hDc⟩ rfl rfl hl.1 rfl (lv_room (Nat.le_of_ble_eq_true rfl)) dX6_init_35 ⟨(Nat.le_of_ble_eq_true rfl), (Nat.le_of_ble_eq_true rfl)⟩) hS (fun q _ h => hFc q h) hFc (fun u35 t H1 locs ht hvm hw hB hz1 hk1 hS => ?_)
  obtain ⟨hP1, hD1⟩ := hB
  rw [ht] at hP1
  obtain ⟨hP, hD⟩ := va_join (wr := (([(h0, .inr (6, [.ref q5, .ref q16, .null, .null, .null, .null, .null, .int 0]))] ++ (zc_5 k q5 u9.1 u9.2)) ++ (zc_4 k q16 q5 u24.1 u24.2))) (w1 := zc_1 k q31 u35.1 u35.2) hP hD [21] [0, 1, 2, 3, 4, 5, 6, 7, 8, 9, 10, 11, 12, 13, 14, 15, 16, 17, 18, 19, 20] rfl rfl (by decide) (by decide) hk1 hFc hP1 hD1
  generalize H1 = H at hP hS ⊢
  have hP : va_P D vwCl ((([(h0, .inr (6, [.ref q5, .ref q16, .null, .null, .null, .null, .null, .int 0]))] ++ (zc_5 k q5 u9.1 u9.2)) ++ (zc_4 k q16 q5 u24.1 u24.2)) ++ (zc_1 k q31 u35.1 u35.2)) H := hP
  have hD : va_D A ((([(h0, .inr (6, [.ref q5, .ref q16, .null, .null, .null, .null, .null, .int 0]))] ++ (zc_5 k q5 u9.1 u9.2)) ++ (zc_4 k q16 q5 u24.1 u24.2)) ++ (zc_1 k q31 u35.1 u35.2)) := hD
  refine va_putF (D := D) (ci := 6) (v := .ref q31) (ty := .object "FlowParts$Network") (C := RX6) (T := TX6) (N := 8) hx hb hts i6 tyX6 tyX6_ok nmX6 hown hK.1 hP hD hS 0 rfl rfl 2 (by decide) (hts _ (List.mem_of_getElem? (i := 15) rfl)) (fun _ h9 => h9) rfl hin rfl (by decide +kernel) rfl rfl (Nat.le_of_ble_eq_true rfl) dX6_init_38 (fun H locs hP hD hS => ?_)
  have hP : va_P D vwCl ((([(h0, .inr (6, [.ref q5, .ref q16, .ref q31, .null, .null, .null, .null, .int 0]))] ++ (zc_5 k q5 u9.1 u9.2)) ++ (zc_4 k q16 q5 u24.1 u24.2)) ++ (zc_1 k q31 u35.1 u35.2)) H := hP
  have hD : va_D A ((([(h0, .inr (6, [.ref q5, .ref q16, .ref q31, .null, .null, .null, .null, .int 0]))] ++ (zc_5 k q5 u9.1 u9.2)) ++ (zc_4 k q16 q5 u24.1 u24.2)) ++ (zc_1 k q31 u35.1 u35.2)) := hD
  refine lv_aload_n hx hb dX6_init_41 rfl (lv_at hl 0 rfl) ?_
  refine va_new (ci := 2) (fs := [.null, .null, .null]) (C := RX2) (T := TX2) (N := 3) hx hb hts i2 tyX2 tyX2_ok hown (hts _ (List.mem_of_getElem? (i := 16) rfl)) (hts _ (List.mem_of_getElem? (i := 17) rfl)) (hts _ (List.mem_of_getElem? (i := 18) rfl)) hK.1 hP hD hS hA rfl (fun j hj => by rcases (show j = 0 ∨ j = 1 ∨ j = 2 by omega) with rfl | rfl | rfl <;> rfl) (Nat.le_of_ble_eq_true rfl) (Nat.le_of_ble_eq_true rfl) dX6_init_42 (fun q42 H hP hD hS => ?_)
  have hP : va_P D vwCl (((([(h0, .inr (6, [.ref q5, .ref q16, .ref q31, .null, .null, .null, .null, .int 0]))] ++ (zc_5 k q5 u9.1 u9.2)) ++ (zc_4 k q16 q5 u24.1 u24.2)) ++ (zc_1 k q31 u35.1 u35.2)) ++ [(q42, .inr (2, [.null, .null, .null]))]) H := hP
  have hD : va_D A (((([(h0, .inr (6, [.ref q5, .ref q16, .ref q31, .null, .null, .null, .null, .int 0]))] ++ (zc_5 k q5 u9.1 u9.2)) ++ (zc_4 k q16 q5 u24.1 u24.2)) ++ (zc_1 k q31 u35.1 u35.2)) ++ [(q42, .inr (2, [.null, .null, .null]))]) := hD
  refine lv_dup hx hb dX6_init_45 rfl ?_
  have hPc := hP.sub (ws' := [(q42, .inr (2, [.null, .null, .null]))]) [33] rfl
  have hDc := hD.sub (ws' := [(q42, .inr (2, [.null, .null, .null]))]) [33] (by decide) rfl
  have hFc := va_free (wc := [(q42, .inr (2, [.null, .null, .null]))]) hD hS hA [33] rfl
  refine va_callv (va_runIN (As := []) (rest := [.ref q42, .ref h0]) ⟨hx, hb, hml, hown, hts⟩ (c_X2_init l D k q42 H.size) ⟨va_cnB 0 hts gX6_init_X2_init_n34 rfl rfl rfl (hN _ (List.mem_of_getElem? (i := 2) rfl)) (hts _ (List.mem_of_getElem? (i := 18) rfl)) (by decide +kernel) ⟨(Nat.le_of_ble_eq_true rfl), (Nat.le_of_ble_eq_true rfl)⟩, rfl, hts _ (List.mem_of_getElem? (i := 65) rfl)⟩ ⟨zPk_blind, zPk_pre hK hPc hDc⟩ rfl rfl hl.1 rfl (lv_room (Nat.le_of_ble_eq_true rfl)) dX6_init_46 ⟨(Nat.le_of_ble_eq_true rfl), (Nat.le_of_ble_eq_true rfl)⟩) hS (fun q _ h => hFc q h) hFc (fun u46 t H1 locs ht hvm hw hB hz1 hk1 hS => ?_)
  obtain ⟨hP1, hD1⟩ := hB
  rw [ht] at hP1
  obtain ⟨hP, hD⟩ := va_join (wr := ((([(h0, .inr (6, [.ref q5, .ref q16, .ref q31, .null, .null, .null, .null, .int 0]))] ++ (zc_5 k q5 u9.1 u9.2)) ++ (zc_4 k q16 q5 u24.1 u24.2)) ++ (zc_1 k q31 u35.1 u35.2))) (w1 := zc_2 k q42 u46.1 u46.2) hP hD [33] [0, 1, 2, 3, 4, 5, 6, 7, 8, 9, 10, 11, 12, 13, 14, 15, 16, 17, 18, 19, 20, 21, 22, 23, 24, 25, 26, 27, 28, 29, 30, 31, 32] rfl rfl (by decide) (by decide) hk1 hFc hP1 hD1
  generalize H1 = H at hP hS ⊢
  have hP : va_P D vwCl (((([(h0, .inr (6, [.ref q5, .ref q16, .ref q31, .null, .null, .null, .null, .int 0]))] ++ (zc_5 k q5 u9.1 u9.2)) ++ (zc_4 k q16 q5 u24.1 u24.2)) ++ (zc_1 k q31 u35.1 u35.2)) ++ (zc_2 k q42 u46.1 u46.2)) H := hP
  have hD : va_D A (((([(h0, .inr (6, [.ref q5, .ref q16, .ref q31, .null, .null, .null, .null, .int 0]))] ++ (zc_5 k q5 u9.1 u9.2)) ++ (zc_4 k q16 q5 u24.1 u24.2)) ++ (zc_1 k q31 u35.1 u35.2)) ++ (zc_2 k q42 u46.1 u46.2)) := hD
  refine va_putF (D := D) (ci := 6) (v := .ref q42) (ty := .object "FlowParts$Prices") (C := RX6) (T := TX6) (N := 8) hx hb hts i6 tyX6 tyX6_ok nmX6 hown hK.1 hP hD hS 0 rfl rfl 3 (by decide) (hts _ (List.mem_of_getElem? (i := 19) rfl)) (fun _ h9 => h9) rfl hin rfl (by decide +kernel) rfl rfl (Nat.le_of_ble_eq_true rfl) dX6_init_49 (fun H locs hP hD hS => ?_)
  have hP : va_P D vwCl (((([(h0, .inr (6, [.ref q5, .ref q16, .ref q31, .ref q42, .null, .null, .null, .int 0]))] ++ (zc_5 k q5 u9.1 u9.2)) ++ (zc_4 k q16 q5 u24.1 u24.2)) ++ (zc_1 k q31 u35.1 u35.2)) ++ (zc_2 k q42 u46.1 u46.2)) H := hP
  have hD : va_D A (((([(h0, .inr (6, [.ref q5, .ref q16, .ref q31, .ref q42, .null, .null, .null, .int 0]))] ++ (zc_5 k q5 u9.1 u9.2)) ++ (zc_4 k q16 q5 u24.1 u24.2)) ++ (zc_1 k q31 u35.1 u35.2)) ++ (zc_2 k q42 u46.1 u46.2)) := hD
  refine lv_aload_n hx hb dX6_init_52 rfl (lv_at hl 0 rfl) ?_
  refine va_new (ci := 3) (fs := [.int 0, .int 0]) (C := RX3) (T := TX3) (N := 2) hx hb hts i3 tyX3 tyX3_ok hown (hts _ (List.mem_of_getElem? (i := 20) rfl)) (hts _ (List.mem_of_getElem? (i := 21) rfl)) (hts _ (List.mem_of_getElem? (i := 22) rfl)) hK.1 hP hD hS hA rfl (fun j hj => by rcases (show j = 0 ∨ j = 1 by omega) with rfl | rfl <;> rfl) (Nat.le_of_ble_eq_true rfl) (Nat.le_of_ble_eq_true rfl) dX6_init_53 (fun q53 H hP hD hS => ?_)
  have hP : va_P D vwCl ((((([(h0, .inr (6, [.ref q5, .ref q16, .ref q31, .ref q42, .null, .null, .null, .int 0]))] ++ (zc_5 k q5 u9.1 u9.2)) ++ (zc_4 k q16 q5 u24.1 u24.2)) ++ (zc_1 k q31 u35.1 u35.2)) ++ (zc_2 k q42 u46.1 u46.2)) ++ [(q53, .inr (3, [.int 0, .int 0]))]) H := hP
  have hD : va_D A ((((([(h0, .inr (6, [.ref q5, .ref q16, .ref q31, .ref q42, .null, .null, .null, .int 0]))] ++ (zc_5 k q5 u9.1 u9.2)) ++ (zc_4 k q16 q5 u24.1 u24.2)) ++ (zc_1 k q31 u35.1 u35.2)) ++ (zc_2 k q42 u46.1 u46.2)) ++ [(q53, .inr (3, [.int 0, .int 0]))]) := hD
  refine lv_dup hx hb dX6_init_56 rfl ?_
  have hPc := hP.sub (ws' := [(q53, .inr (3, [.int 0, .int 0]))]) [46] rfl
  have hDc := hD.sub (ws' := [(q53, .inr (3, [.int 0, .int 0]))]) [46] (by decide) rfl
  have hFc := va_free (wc := [(q53, .inr (3, [.int 0, .int 0]))]) hD hS hA [46] rfl
  refine va_callv (va_runIN (As := []) (rest := [.ref q53, .ref h0]) ⟨hx, hb, hml, hown, hts⟩ (c_X3_init l D k q53 H.size) ⟨va_cnB 0 hts gX6_init_X3_init_n41 rfl rfl rfl (hN _ (List.mem_of_getElem? (i := 3) rfl)) (hts _ (List.mem_of_getElem? (i := 22) rfl)) (by decide +kernel) ⟨(Nat.le_of_ble_eq_true rfl), (Nat.le_of_ble_eq_true rfl)⟩, rfl, hts _ (List.mem_of_getElem? (i := 72) rfl)⟩ ⟨zPk_blind, zPk_pre hK hPc hDc⟩ rfl rfl hl.1 rfl (lv_room (Nat.le_of_ble_eq_true rfl)) dX6_init_57 ⟨(Nat.le_of_ble_eq_true rfl), (Nat.le_of_ble_eq_true rfl)⟩) hS (fun q _ h => hFc q h) hFc (fun u57 t H1 locs ht hvm hw hB hz1 hk1 hS => ?_)
  obtain ⟨hP1, hD1⟩ := hB
  rw [ht] at hP1
  obtain ⟨hP, hD⟩ := va_join (wr := (((([(h0, .inr (6, [.ref q5, .ref q16, .ref q31, .ref q42, .null, .null, .null, .int 0]))] ++ (zc_5 k q5 u9.1 u9.2)) ++ (zc_4 k q16 q5 u24.1 u24.2)) ++ (zc_1 k q31 u35.1 u35.2)) ++ (zc_2 k q42 u46.1 u46.2))) (w1 := zc_3 k q53 u57.1 u57.2) hP hD [46] [0, 1, 2, 3, 4, 5, 6, 7, 8, 9, 10, 11, 12, 13, 14, 15, 16, 17, 18, 19, 20, 21, 22, 23, 24, 25, 26, 27, 28, 29, 30, 31, 32, 33, 34, 35, 36, 37, 38, 39, 40, 41, 42, 43, 44, 45] rfl rfl (by decide) (by decide) hk1 hFc hP1 hD1
  generalize H1 = H at hP hS ⊢
  have hP : va_P D vwCl ((((([(h0, .inr (6, [.ref q5, .ref q16, .ref q31, .ref q42, .null, .null, .null, .int 0]))] ++ (zc_5 k q5 u9.1 u9.2)) ++ (zc_4 k q16 q5 u24.1 u24.2)) ++ (zc_1 k q31 u35.1 u35.2)) ++ (zc_2 k q42 u46.1 u46.2)) ++ (zc_3 k q53 u57.1 u57.2)) H := hP
  have hD : va_D A ((((([(h0, .inr (6, [.ref q5, .ref q16, .ref q31, .ref q42, .null, .null, .null, .int 0]))] ++ (zc_5 k q5 u9.1 u9.2)) ++ (zc_4 k q16 q5 u24.1 u24.2)) ++ (zc_1 k q31 u35.1 u35.2)) ++ (zc_2 k q42 u46.1 u46.2)) ++ (zc_3 k q53 u57.1 u57.2)) := hD
  refine va_putF (D := D) (ci := 6) (v := .ref q53) (ty := .object "FlowParts$Proof") (C := RX6) (T := TX6) (N := 8) hx hb hts i6 tyX6 tyX6_ok nmX6 hown hK.1 hP hD hS 0 rfl rfl 4 (by decide) (hts _ (List.mem_of_getElem? (i := 23) rfl)) (fun _ h9 => h9) rfl hin rfl (by decide +kernel) rfl rfl (Nat.le_of_ble_eq_true rfl) dX6_init_60 (fun H locs hP hD hS => ?_)
  have hP : va_P D vwCl ((((([(h0, .inr (6, [.ref q5, .ref q16, .ref q31, .ref q42, .ref q53, .null, .null, .int 0]))] ++ (zc_5 k q5 u9.1 u9.2)) ++ (zc_4 k q16 q5 u24.1 u24.2)) ++ (zc_1 k q31 u35.1 u35.2)) ++ (zc_2 k q42 u46.1 u46.2)) ++ (zc_3 k q53 u57.1 u57.2)) H := hP
  have hD : va_D A ((((([(h0, .inr (6, [.ref q5, .ref q16, .ref q31, .ref q42, .ref q53, .null, .null, .int 0]))] ++ (zc_5 k q5 u9.1 u9.2)) ++ (zc_4 k q16 q5 u24.1 u24.2)) ++ (zc_1 k q31 u35.1 u35.2)) ++ (zc_2 k q42 u46.1 u46.2)) ++ (zc_3 k q53 u57.1 u57.2)) := hD
  refine lv_aload_n hx hb dX6_init_63 rfl (lv_at hl 0 rfl) ?_
  refine va_new (ci := 0) (fs := [.null]) (C := RX0) (T := TX0) (N := 1) hx hb hts i0 tyX0 tyX0_ok hown (hts _ (List.mem_of_getElem? (i := 24) rfl)) (hts _ (List.mem_of_getElem? (i := 25) rfl)) (hts _ (List.mem_of_getElem? (i := 26) rfl)) hK.1 hP hD hS hA rfl (fun j hj => by rcases (show j = 0 by omega) with rfl <;> rfl) (Nat.le_of_ble_eq_true rfl) (Nat.le_of_ble_eq_true rfl) dX6_init_64 (fun q64 H hP hD hS => ?_)
  have hP : va_P D vwCl (((((([(h0, .inr (6, [.ref q5, .ref q16, .ref q31, .ref q42, .ref q53, .null, .null, .int 0]))] ++ (zc_5 k q5 u9.1 u9.2)) ++ (zc_4 k q16 q5 u24.1 u24.2)) ++ (zc_1 k q31 u35.1 u35.2)) ++ (zc_2 k q42 u46.1 u46.2)) ++ (zc_3 k q53 u57.1 u57.2)) ++ [(q64, .inr (0, [.null]))]) H := hP
  have hD : va_D A (((((([(h0, .inr (6, [.ref q5, .ref q16, .ref q31, .ref q42, .ref q53, .null, .null, .int 0]))] ++ (zc_5 k q5 u9.1 u9.2)) ++ (zc_4 k q16 q5 u24.1 u24.2)) ++ (zc_1 k q31 u35.1 u35.2)) ++ (zc_2 k q42 u46.1 u46.2)) ++ (zc_3 k q53 u57.1 u57.2)) ++ [(q64, .inr (0, [.null]))]) := hD
  refine lv_dup hx hb dX6_init_67 rfl ?_
  have hPc := hP.sub (ws' := [(q64, .inr (0, [.null]))]) [47] rfl
  have hDc := hD.sub (ws' := [(q64, .inr (0, [.null]))]) [47] (by decide) rfl
  have hFc := va_free (wc := [(q64, .inr (0, [.null]))]) hD hS hA [47] rfl
  refine va_callv (va_runIN (As := []) (rest := [.ref q64, .ref h0]) ⟨hx, hb, hml, hown, hts⟩ (c_X0_init l D k q64 H.size) ⟨va_cnB 0 hts gX6_init_X0_init_n48 rfl rfl rfl (hN _ (List.mem_of_getElem? (i := 4) rfl)) (hts _ (List.mem_of_getElem? (i := 26) rfl)) (by decide +kernel) ⟨(Nat.le_of_ble_eq_true rfl), (Nat.le_of_ble_eq_true rfl)⟩, rfl, hts _ (List.mem_of_getElem? (i := 75) rfl)⟩ ⟨zPk_blind, zPk_pre hK hPc hDc⟩ rfl rfl hl.1 rfl (lv_room (Nat.le_of_ble_eq_true rfl)) dX6_init_68 ⟨(Nat.le_of_ble_eq_true rfl), (Nat.le_of_ble_eq_true rfl)⟩) hS (fun q _ h => hFc q h) hFc (fun u68 t H1 locs ht hvm hw hB hz1 hk1 hS => ?_)
  obtain ⟨hP1, hD1⟩ := hB
  rw [ht] at hP1
  obtain ⟨hP, hD⟩ := va_join (wr := ((((([(h0, .inr (6, [.ref q5, .ref q16, .ref q31, .ref q42, .ref q53, .null, .null, .int 0]))] ++ (zc_5 k q5 u9.1 u9.2)) ++ (zc_4 k q16 q5 u24.1 u24.2)) ++ (zc_1 k q31 u35.1 u35.2)) ++ (zc_2 k q42 u46.1 u46.2)) ++ (zc_3 k q53 u57.1 u57.2))) (w1 := zc_0 k q64 u68.1 u68.2) hP hD [47] [0, 1, 2, 3, 4, 5, 6, 7, 8, 9, 10, 11, 12, 13, 14, 15, 16, 17, 18, 19, 20, 21, 22, 23, 24, 25, 26, 27, 28, 29, 30, 31, 32, 33, 34, 35, 36, 37, 38, 39, 40, 41, 42, 43, 44, 45, 46] rfl rfl (by decide) (by decide) hk1 hFc hP1 hD1
  generalize H1 = H at hP hS ⊢
  have hP : va_P D vwCl (((((([(h0, .inr (6, [.ref q5, .ref q16, .ref q31, .ref q42, .ref q53, .null, .null, .int 0]))] ++ (zc_5 k q5 u9.1 u9.2)) ++ (zc_4 k q16 q5 u24.1 u24.2)) ++ (zc_1 k q31 u35.1 u35.2)) ++ (zc_2 k q42 u46.1 u46.2)) ++ (zc_3 k q53 u57.1 u57.2)) ++ (zc_0 k q64 u68.1 u68.2)) H := hP
  have hD : va_D A (((((([(h0, .inr (6, [.ref q5, .ref q16, .ref q31, .ref q42, .ref q53, .null, .null, .int 0]))] ++ (zc_5 k q5 u9.1 u9.2)) ++ (zc_4 k q16 q5 u24.1 u24.2)) ++ (zc_1 k q31 u35.1 u35.2)) ++ (zc_2 k q42 u46.1 u46.2)) ++ (zc_3 k q53 u57.1 u57.2)) ++ (zc_0 k q64 u68.1 u68.2)) := hD
  refine va_putF (D := D) (ci := 6) (v := .ref q64) (ty := .object "FlowParts$Knapsack") (C := RX6) (T := TX6) (N := 8) hx hb hts i6 tyX6 tyX6_ok nmX6 hown hK.1 hP hD hS 0 rfl rfl 5 (by decide) (hts _ (List.mem_of_getElem? (i := 27) rfl)) (fun _ h9 => h9) rfl hin rfl (by decide +kernel) rfl rfl (Nat.le_of_ble_eq_true rfl) dX6_init_71 (fun H locs hP hD hS => ?_)
  have hP : va_P D vwCl (((((([(h0, .inr (6, [.ref q5, .ref q16, .ref q31, .ref q42, .ref q53, .ref q64, .null, .int 0]))] ++ (zc_5 k q5 u9.1 u9.2)) ++ (zc_4 k q16 q5 u24.1 u24.2)) ++ (zc_1 k q31 u35.1 u35.2)) ++ (zc_2 k q42 u46.1 u46.2)) ++ (zc_3 k q53 u57.1 u57.2)) ++ (zc_0 k q64 u68.1 u68.2)) H := hP
  have hD : va_D A (((((([(h0, .inr (6, [.ref q5, .ref q16, .ref q31, .ref q42, .ref q53, .ref q64, .null, .int 0]))] ++ (zc_5 k q5 u9.1 u9.2)) ++ (zc_4 k q16 q5 u24.1 u24.2)) ++ (zc_1 k q31 u35.1 u35.2)) ++ (zc_2 k q42 u46.1 u46.2)) ++ (zc_3 k q53 u57.1 u57.2)) ++ (zc_0 k q64 u68.1 u68.2)) := hD
  refine lv_aload_n hx hb dX6_init_74 rfl (lv_at hl 0 rfl) ?_
  refine lv_bipush (v := (10 : Int32)) hx hb dX6_init_75 (by decide) ?_
  refine z_newI (N' := 10) hx hb (hts _ (List.mem_of_getElem? (i := 28) rfl)) hK hP hD hS hA (by decide) (by decide) (by decide) (Nat.le_of_ble_eq_true rfl) (Nat.le_of_ble_eq_true rfl) dX6_init_77 (fun q77 H hP hD hS => ?_)
  have hP : va_P D vwCl ((((((([(h0, .inr (6, [.ref q5, .ref q16, .ref q31, .ref q42, .ref q53, .ref q64, .null, .int 0]))] ++ (zc_5 k q5 u9.1 u9.2)) ++ (zc_4 k q16 q5 u24.1 u24.2)) ++ (zc_1 k q31 u35.1 u35.2)) ++ (zc_2 k q42 u46.1 u46.2)) ++ (zc_3 k q53 u57.1 u57.2)) ++ (zc_0 k q64 u68.1 u68.2)) ++ [(q77, .inl (k 0, 10, .inl (fun _ => 0)))]) H := hP
  have hD : va_D A ((((((([(h0, .inr (6, [.ref q5, .ref q16, .ref q31, .ref q42, .ref q53, .ref q64, .null, .int 0]))] ++ (zc_5 k q5 u9.1 u9.2)) ++ (zc_4 k q16 q5 u24.1 u24.2)) ++ (zc_1 k q31 u35.1 u35.2)) ++ (zc_2 k q42 u46.1 u46.2)) ++ (zc_3 k q53 u57.1 u57.2)) ++ (zc_0 k q64 u68.1 u68.2)) ++ [(q77, .inl (k 0, 10, .inl (fun _ => 0)))]) := hD
  refine va_putF (D := D) (ci := 6) (v := .ref q77) (ty := .array .int) (C := RX6) (T := TX6) (N := 8) hx hb hts i6 tyX6 tyX6_ok nmX6 hown hK.1 hP hD hS 0 rfl rfl 6 (by decide) (hts _ (List.mem_of_getElem? (i := 29) rfl)) (fun _ h9 => h9) rfl hin rfl (by decide +kernel) rfl rfl (Nat.le_of_ble_eq_true rfl) dX6_init_79 (fun H locs hP hD hS => ?_)
  have hP : va_P D vwCl ((((((([(h0, .inr (6, [.ref q5, .ref q16, .ref q31, .ref q42, .ref q53, .ref q64, .ref q77, .int 0]))] ++ (zc_5 k q5 u9.1 u9.2)) ++ (zc_4 k q16 q5 u24.1 u24.2)) ++ (zc_1 k q31 u35.1 u35.2)) ++ (zc_2 k q42 u46.1 u46.2)) ++ (zc_3 k q53 u57.1 u57.2)) ++ (zc_0 k q64 u68.1 u68.2)) ++ [(q77, .inl (k 0, 10, .inl (fun _ => 0)))]) H := hP
  have hD : va_D A ((((((([(h0, .inr (6, [.ref q5, .ref q16, .ref q31, .ref q42, .ref q53, .ref q64, .ref q77, .int 0]))] ++ (zc_5 k q5 u9.1 u9.2)) ++ (zc_4 k q16 q5 u24.1 u24.2)) ++ (zc_1 k q31 u35.1 u35.2)) ++ (zc_2 k q42 u46.1 u46.2)) ++ (zc_3 k q53 u57.1 u57.2)) ++ (zc_0 k q64 u68.1 u68.2)) ++ [(q77, .inl (k 0, 10, .inl (fun _ => 0)))]) := hD
  refine lv_aload_n hx hb dX6_init_82 rfl (lv_at hl 0 rfl) ?_
  refine lv_iconst (v := (0 : Int32)) hx hb dX6_init_83 (by decide) ?_
  refine va_put (D := D) (ci := 6) (v := .int (0 : Int32)) (ty := .int) (C := RX6) (T := TX6) (N := 8) hx hb hts i6 tyX6 tyX6_ok nmX6 hown hK.1 hP hD hS 0 rfl rfl 7 (by decide) (hts _ (List.mem_of_getElem? (i := 30) rfl)) (fun _ h9 => h9) rfl (by decide +kernel) rfl rfl (Nat.le_of_ble_eq_true rfl) dX6_init_84 (fun H locs hP hD hS => ?_)
  have hP : va_P D vwCl ((((((([(h0, .inr (6, [.ref q5, .ref q16, .ref q31, .ref q42, .ref q53, .ref q64, .ref q77, .int (0 : Int32)]))] ++ (zc_5 k q5 u9.1 u9.2)) ++ (zc_4 k q16 q5 u24.1 u24.2)) ++ (zc_1 k q31 u35.1 u35.2)) ++ (zc_2 k q42 u46.1 u46.2)) ++ (zc_3 k q53 u57.1 u57.2)) ++ (zc_0 k q64 u68.1 u68.2)) ++ [(q77, .inl (k 0, 10, .inl (fun _ => 0)))]) H := hP
  have hD : va_D A ((((((([(h0, .inr (6, [.ref q5, .ref q16, .ref q31, .ref q42, .ref q53, .ref q64, .ref q77, .int (0 : Int32)]))] ++ (zc_5 k q5 u9.1 u9.2)) ++ (zc_4 k q16 q5 u24.1 u24.2)) ++ (zc_1 k q31 u35.1 u35.2)) ++ (zc_2 k q42 u46.1 u46.2)) ++ (zc_3 k q53 u57.1 u57.2)) ++ (zc_0 k q64 u68.1 u68.2)) ++ [(q77, .inl (k 0, 10, .inl (fun _ => 0)))]) := hD
  refine W.widen (k := 60) (n := 3802) (Nat.le_of_ble_eq_true rfl) (Nat.le_of_ble_eq_true rfl) ?_
  exact W.vret hx hb hr (fun t ht hW => ⟨⟨(fun i => [q5, q16, q31, q42, q53, q64, q77].getD i 0, fun i => [u9, u24, u35, u46, u57, u68].getD i (fun _ => 0, fun _ => 0)), rfl, trivial, by rw [ht]; exact hP, hD⟩, hS.F ht⟩) hS.2.2 dX6_init_87
