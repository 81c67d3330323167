abbrev rm_X7_byFlows : Room := { frames := 5, cells := 0, slots := 0, locals := 119 }
def X7_byFlows_b37 (t0 : Int32) (S : ZS) (Q : Int32 → ZS → Prop) : Prop :=
  ∀ S_37 : ZS, S_37 = zu S 61 14 t0 → Q (0 : Int32) S_37
def X7_byFlows (S : ZS) (Q : Int32 → ZS → Prop) : Prop :=
  X7_begin S (fun S_1 => X7_findSigns S_1 (fun S_5 => X7_firstProof S_5 (fun r_9 S_9 => (r_9 = (-1 : Int32) → X7_findLeast S_9 (fun S_43 => X7_improve S_43 (fun S_47 => X7_keepBest S_47 (fun S_51 => X7_findLeast S_51 (fun S_55 => X7_findPrices S_55 (fun S_59 => Q (1 : Int32) S_59)))))) ∧ (¬ r_9 = (-1 : Int32) → ¬ (2 : Int32) = 0 ∧ ∀ S_22 : ZS, S_22 = zu S_9 61 13 (r_9 / (2 : Int32)) → ¬ (2 : Int32) = 0 ∧ ((r_9 - r_9 / (2 : Int32) * (2 : Int32)) = 0 → X7_byFlows_b37 (1 : Int32) S_22 Q) ∧ (¬ (r_9 - r_9 / (2 : Int32) * (2 : Int32)) = 0 → X7_byFlows_b37 (-1 : Int32) S_22 Q)))))
set_option maxHeartbeats 4000000 in
set_option maxRecDepth 100000 in
theorem c_X7_byFlows (l : Launch) (D : va_G) (k : Nat → ClassId) (a : Nat → Nat) (hj : zDj a) (S : ZS) (Q : Int32 → ZS → Prop) (hm : X7_byFlows S Q) (sz : Nat) : Met l yX7_byFlows wsX7_byFlows rm_X7_byFlows (zPc D k a [.ref (a 61)] S sz) (va_Qi Q (zB D k a) (zA a sz)) 0 0 (zA a sz) := by
  refine Met.ofW (cc := cX7_byFlows) (maxL := 2) (ret := (some .int)) (by decide) rfl ?_
  intro p e s m args below meth c s₁ B hml hv
  obtain ⟨rfl, hsz, hP, hK⟩ := hv
  have hx := B.exec
  have hb := B.bytes
  have hr := B.returns
  have hts := atoms_spec (ws := wsX7_byFlows) B.pre
  have hown : s.vm.findClass RX7 = some m.cls := findClass_of_methodNamed B.named
  have hlocks := B.notSynchronized
  subst hsz
  have hS : va_S (zA a s.heap.size) s.heap s.heap [] := va_S.rf
  have hF : CallFix p m c cX7_byFlows 2 s _ wsX7_byFlows RX7 := ⟨hx, hb, hml, hown, hts⟩
  have i7 : ∀ w ∈ wsX70, w ∈ wsX7_byFlows := fun _ h => (List.mem_cons_of_mem _ (List.mem_append_right _ h))
  have hl := lv_entry ([.ref (a 61)]) (n := 2) (Nat.le_of_ble_eq_true rfl)
  rw [lg_entry_eq]
  generalize (lg_sl ([.ref (a 61)]) ++ List.replicate (2 - (lg_sl ([.ref (a 61)])).length) Slot.unset).toArray = ls at hl ⊢
  have hl : lv_has ls 2 [(0, .ref (a 61))] := hl
  have b37 : ∀ (t0 : Int32) (S : ZS) (H : Heap) (locs : List Loc) (ls : Array Slot), X7_byFlows_b37 t0 S Q → va_P D vwCl (zWS k a S) H → va_S (zA a s.heap.size) s.heap H locs → lv_has ls 2 [(0, .ref (a 61))] → zWi p l e (headSpec wsX7_byFlows rm_X7_byFlows).room s m ([.ref (a 61)] : List Value) below meth c D k a Q H locs (F0 m 37 ls [.int t0, .ref (a 61)]) := by
    intro t0 S H locs ls hm hP hS hl
    unfold X7_byFlows_b37 at hm
    refine zp_7_proofSide hx hb hts i7 hown hj hK hP hS (hts _ (List.mem_of_getElem? (i := 2) rfl)) dX7_byFlows_37 (fun H locs hP hS => ?_)
    obtain ⟨S_37, eS_37⟩ : ∃ z : ZS, z = zu S 61 14 t0 := ⟨_, rfl⟩
    rw [← eS_37] at hP
    have hm := hm S_37 eS_37
    refine lv_iconst (v := (0 : Int32)) hx hb dX7_byFlows_40 (by decide) ?_
    exact z_reti hx hb hr hlocks hP hS hm dX7_byFlows_41
  unfold X7_byFlows at hm
  refine lv_aload_n hx hb dX7_byFlows_0 rfl (lv_at hl 0 rfl) ?_
  refine z_cVv (As := []) (rest := []) hF hK hP hS zO_61 rfl rfl (c_X7_begin l D k a hj  S _ hm _) (cwV 0 hts gX7_byFlows_X7_begin rfl rfl rfl (by decide +kernel) ⟨Nat.le_of_ble_eq_true rfl, Nat.le_of_ble_eq_true rfl⟩) rfl hl.1 rfl (Nat.le_of_ble_eq_true rfl) dX7_byFlows_1 ⟨Nat.zero_le _, Nat.zero_le _⟩ (fun S_1 H locs hm hP hS => ?_)
  refine lv_aload_n hx hb dX7_byFlows_4 rfl (lv_at hl 0 rfl) ?_
  refine z_cVv (As := []) (rest := []) hF hK hP hS zO_61 rfl rfl (c_X7_findSigns l D k a hj  S_1 _ hm _) (cwV 0 hts gX7_byFlows_X7_findSigns rfl rfl rfl (by decide +kernel) ⟨Nat.le_of_ble_eq_true rfl, Nat.le_of_ble_eq_true rfl⟩) rfl hl.1 rfl (Nat.le_of_ble_eq_true rfl) dX7_byFlows_5 ⟨Nat.zero_le _, Nat.zero_le _⟩ (fun S_5 H locs hm hP hS => ?_)
  refine lv_aload_n hx hb dX7_byFlows_8 rfl (lv_at hl 0 rfl) ?_
  refine z_cVi (As := []) (rest := []) hF hK hP hS zO_61 rfl rfl (c_X7_firstProof l D k a hj  S_5 _ hm _) (cwV 0 hts gX7_byFlows_X7_firstProof rfl rfl rfl (by decide +kernel) ⟨Nat.le_of_ble_eq_true rfl, Nat.le_of_ble_eq_true rfl⟩) rfl hl.1 rfl (Nat.le_of_ble_eq_true rfl) dX7_byFlows_9 ⟨Nat.zero_le _, Nat.zero_le _⟩ (fun r_9 S_9 H locs hm hP hS => ?_)
  refine lv_istore_n (lv' := [(1, .int r_9), (0, .ref (a 61))]) hx hb dX7_byFlows_12 rfl hl (by decide) rfl (fun ls hl => ?_)
  refine lv_iload_n hx hb dX7_byFlows_13 rfl (lv_at hl 0 rfl) ?_
  refine lv_iconst (v := (-1 : Int32)) hx hb dX7_byFlows_14 (by decide) ?_
  refine lv_icmp_eq (tgt := 42) hx hb dX7_byFlows_15 (by decide) (fun c_15 => ?_) (fun c_15 => ?_)
  · have hm := hm.1 c_15
    refine lv_aload_n hx hb dX7_byFlows_42 rfl (lv_at hl 1 rfl) ?_
    refine z_cVv (As := []) (rest := []) hF hK hP hS zO_61 rfl rfl (c_X7_findLeast l D k a hj  S_9 _ hm _) (cwV 0 hts gX7_byFlows_X7_findLeast rfl rfl rfl (by decide +kernel) ⟨Nat.le_of_ble_eq_true rfl, Nat.le_of_ble_eq_true rfl⟩) rfl hl.1 rfl (Nat.le_of_ble_eq_true rfl) dX7_byFlows_43 ⟨Nat.zero_le _, Nat.zero_le _⟩ (fun S_43 H locs hm hP hS => ?_)
    refine lv_aload_n hx hb dX7_byFlows_46 rfl (lv_at hl 1 rfl) ?_
    refine z_cVv (As := []) (rest := []) hF hK hP hS zO_61 rfl rfl (c_X7_improve l D k a hj  S_43 _ hm _) (cwV 0 hts gX7_byFlows_X7_improve rfl rfl rfl (by decide +kernel) ⟨Nat.le_of_ble_eq_true rfl, Nat.le_of_ble_eq_true rfl⟩) rfl hl.1 rfl (Nat.le_of_ble_eq_true rfl) dX7_byFlows_47 ⟨Nat.zero_le _, Nat.zero_le _⟩ (fun S_47 H locs hm hP hS => ?_)
    refine lv_aload_n hx hb dX7_byFlows_50 rfl (lv_at hl 1 rfl) ?_
    refine z_cVv (As := []) (rest := []) hF hK hP hS zO_61 rfl rfl (c_X7_keepBest l D k a hj  S_47 _ hm _) (cwV 0 hts gX7_byFlows_X7_keepBest rfl rfl rfl (by decide +kernel) ⟨Nat.le_of_ble_eq_true rfl, Nat.le_of_ble_eq_true rfl⟩) rfl hl.1 rfl (Nat.le_of_ble_eq_true rfl) dX7_byFlows_51 ⟨Nat.zero_le _, Nat.zero_le _⟩ (fun S_51 H locs hm hP hS => ?_)
    refine lv_aload_n hx hb dX7_byFlows_54 rfl (lv_at hl 1 rfl) ?_
    refine z_cVv (As := []) (rest := []) hF hK hP hS zO_61 rfl rfl (c_X7_findLeast l D k a hj  S_51 _ hm _) (cwV 0 hts gX7_byFlows_X7_findLeast rfl rfl rfl (by decide +kernel) ⟨Nat.le_of_ble_eq_true rfl, Nat.le_of_ble_eq_true rfl⟩) rfl hl.1 rfl (Nat.le_of_ble_eq_true rfl) dX7_byFlows_55 ⟨Nat.zero_le _, Nat.zero_le _⟩ (fun S_55 H locs hm hP hS => ?_)
    refine lv_aload_n hx hb dX7_byFlows_58 rfl (lv_at hl 1 rfl) ?_
    refine z_cVv (As := []) (rest := []) hF hK hP hS zO_61 rfl rfl (c_X7_findPrices l D k a hj  S_55 _ hm _) (cwV 0 hts gX7_byFlows_X7_findPrices rfl rfl rfl (by decide +kernel) ⟨Nat.le_of_ble_eq_true rfl, Nat.le_of_ble_eq_true rfl⟩) rfl hl.1 rfl (Nat.le_of_ble_eq_true rfl) dX7_byFlows_59 ⟨Nat.zero_le _, Nat.zero_le _⟩ (fun S_59 H locs hm hP hS => ?_)
    refine lv_iconst (v := (1 : Int32)) hx hb dX7_byFlows_62 (by decide) ?_
    exact z_reti hx hb hr hlocks hP hS hm dX7_byFlows_63
  · have hm := hm.2 c_15
    refine lv_aload_n hx hb dX7_byFlows_18 rfl (lv_at hl 1 rfl) ?_
    refine lv_iload_n hx hb dX7_byFlows_19 rfl (lv_at hl 0 rfl) ?_
    refine lv_iconst (v := (2 : Int32)) hx hb dX7_byFlows_20 (by decide) ?_
    obtain ⟨h_21, hm⟩ := hm
    refine lv_idiv hx hb dX7_byFlows_21 h_21 ?_
    refine zp_7_proofSet hx hb hts i7 hown hj hK hP hS (hts _ (List.mem_of_getElem? (i := 1) rfl)) dX7_byFlows_22 (fun H locs hP hS => ?_)
    obtain ⟨S_22, eS_22⟩ : ∃ z : ZS, z = zu S_9 61 13 (r_9 / (2 : Int32)) := ⟨_, rfl⟩
    rw [← eS_22] at hP
    have hm := hm S_22 eS_22
    refine lv_aload_n hx hb dX7_byFlows_25 rfl (lv_at hl 1 rfl) ?_
    refine lv_iload_n hx hb dX7_byFlows_26 rfl (lv_at hl 0 rfl) ?_
    refine lv_iconst (v := (2 : Int32)) hx hb dX7_byFlows_27 (by decide) ?_
    obtain ⟨h_28, hm⟩ := hm
    refine lv_irem hx hb dX7_byFlows_28 h_28 ?_
    refine lv_if_ne (tgt := 36) hx hb dX7_byFlows_29 (by decide) (fun c_29 => ?_) (fun c_29 => ?_)
    · have hm := hm.2 c_29
      refine lv_iconst (v := (-1 : Int32)) hx hb dX7_byFlows_36 (by decide) ?_
      exact b37 (-1 : Int32) S_22 _ _ _ hm hP hS (lv_sub hl [1] rfl)
    · have hm := hm.1 c_29
      refine lv_iconst (v := (1 : Int32)) hx hb dX7_byFlows_32 (by decide) ?_
      refine lv_goto (tgt := 37) hx hb dX7_byFlows_33 (by decide) ?_
      exact b37 (1 : Int32) S_22 _ _ _ hm hP hS (lv_sub hl [1] rfl)

abbrev rm_X7_byRoom : Room := { frames := 1, cells := 0, slots := 0, locals := 22 }
def X7_byRoom_b267 (S : ZS) (Q : ZS → Prop) : Prop :=
  Q S
def X7_byRoom_b243 (x1 : Int32) (x2 : Int32) (x3 : Int32) (S : ZS) (Q : ZS → Prop) (k177 : Int32 × Int32 × ZS → Prop) : Prop :=
  vp_in x2 10 ∧ ∀ S_249 : ZS, S_249 = zu S 68 (x2).toNatClampNeg x3 → X7_coef (0 : Int32) x2 S_249 (fun r_255 S_255 => ∀ x1_260 : Int32, x1_260 = (x1 - (x3 * r_255)) → ∀ x2_261 : Int32, x2_261 = x2 + (1 : Int32) → k177 (x1_260, x2_261, S_255))
def X7_byRoom_B187 (x1 : Int32) (x2 : Int32) (x3 : Int32) (S : ZS) (Q : ZS → Prop) (k177 : Int32 × Int32 × ZS → Prop) (k187 : Int32 × ZS → Prop) : Prop :=
  vp_in x2 10 ∧ X7_coef (0 : Int32) x2 S (fun r_214 S_214 => vp_in ((((301 : Int32) * (x2 + (1 : Int32))) + x1) - (x3 * r_214)) 3311 ∧ vp_in (((301 : Int32) * x2) + x1) 3311 ∧ ((lg_cmp (((Int32.toInt64 x3) * (Int32.toInt64 (S.1 64 (x2).toNatClampNeg))) + (S_214.2 81 (((((301 : Int32) * (x2 + (1 : Int32))) + x1) - (x3 * r_214))).toNatClampNeg)) (S_214.2 81 ((((301 : Int32) * x2) + x1)).toNatClampNeg)) = 0 → X7_byRoom_b243 x1 x2 x3 S_214 Q k177) ∧ (¬ (lg_cmp (((Int32.toInt64 x3) * (Int32.toInt64 (S.1 64 (x2).toNatClampNeg))) + (S_214.2 81 (((((301 : Int32) * (x2 + (1 : Int32))) + x1) - (x3 * r_214))).toNatClampNeg)) (S_214.2 81 ((((301 : Int32) * x2) + x1)).toNatClampNeg)) = 0 → ∀ x3_237 : Int32, x3_237 = x3 + (1 : Int32) → k187 (x3_237, S_214)))
def X7_byRoom_L187 (x1 : Int32) (x2 : Int32) (Q : ZS → Prop) (k177 : Int32 × Int32 × ZS → Prop) : (Int32 × ZS) → ((Int32 × ZS) → Prop) → Prop := fun st k187 => X7_byRoom_B187 x1 x2 st.1 st.2 Q k177 k187
def X7_byRoom_B177 (x1 : Int32) (x2 : Int32) (S : ZS) (Q : ZS → Prop) (k177 : Int32 × Int32 × ZS → Prop) : Prop :=
  ((S.1 61 1) ≤ x2 → X7_byRoom_b267 S Q) ∧ (¬ (S.1 61 1) ≤ x2 → zl (X7_byRoom_L187 x1 x2 Q k177) ((0 : Int32), S))
def X7_byRoom_L177 (Q : ZS → Prop) : (Int32 × Int32 × ZS) → ((Int32 × Int32 × ZS) → Prop) → Prop := fun st k177 => X7_byRoom_B177 st.1 st.2.1 st.2.2 Q k177
def X7_byRoom_b168 (S : ZS) (Q : ZS → Prop) : Prop :=
  vp_in (0 : Int32) 8 ∧ ∀ x1_174 : Int32, x1_174 = (S.1 66 ((0 : Int32)).toNatClampNeg) → zl (X7_byRoom_L177 Q) (x1_174, (0 : Int32), S)
def X7_byRoom_b162 (x1 : Int32) (S : ZS) (Q : ZS → Prop) (k38 : Int32 × ZS → Prop) : Prop :=
  ∀ x1_162 : Int32, x1_162 = x1 + (-1 : Int32) → k38 (x1_162, S)
def X7_byRoom_b143 (x1 : Int32) (x2 : Int32) (x3 : Int64) (S : ZS) (Q : ZS → Prop) (k38 : Int32 × ZS → Prop) (k44 : Int32 × ZS → Prop) : Prop :=
  vp_in (((301 : Int32) * x1) + x2) 3311 ∧ ∀ S_155 : ZS, S_155 = zw S 81 ((((301 : Int32) * x1) + x2)).toNatClampNeg x3 → ∀ x2_156 : Int32, x2_156 = x2 + (1 : Int32) → k44 (x2_156, S_155)
def X7_byRoom_b136 (x1 : Int32) (x2 : Int32) (x5 : Int32) (t0 : Int64) (S : ZS) (Q : ZS → Prop) (k38 : Int32 × ZS → Prop) (k44 : Int32 × ZS → Prop) (k61 : Int64 × Int32 × ZS → Prop) : Prop :=
  ∀ x5_137 : Int32, x5_137 = x5 + (1 : Int32) → k61 (t0, x5_137, S)
def X7_byRoom_B61 (x1 : Int32) (x2 : Int32) (x3 : Int64) (x5 : Int32) (S : ZS) (Q : ZS → Prop) (k38 : Int32 × ZS → Prop) (k44 : Int32 × ZS → Prop) (k61 : Int64 × Int32 × ZS → Prop) : Prop :=
  vp_in x1 10 ∧ ((S.1 63 (x1).toNatClampNeg) < x5 → X7_byRoom_b143 x1 x2 x3 S Q k38 k44) ∧ (¬ (S.1 63 (x1).toNatClampNeg) < x5 → X7_coef (0 : Int32) x1 S (fun r_77 S_77 => (x2 < (x5 * r_77) → X7_byRoom_b143 x1 x2 x3 S_77 Q k38 k44) ∧ (¬ x2 < (x5 * r_77) → vp_in x1 10 ∧ X7_coef (0 : Int32) x1 S_77 (fun r_114 S_114 => vp_in ((((301 : Int32) * (x1 + (1 : Int32))) + x2) - (x5 * r_114)) 3311 ∧ ∀ x6_121 : Int64, x6_121 = (((Int32.toInt64 x5) * (Int32.toInt64 (S_77.1 64 (x1).toNatClampNeg))) + (S_114.2 81 (((((301 : Int32) * (x1 + (1 : Int32))) + x2) - (x5 * r_114))).toNatClampNeg)) → (0 ≤ (lg_cmp x6_121 x3) → X7_byRoom_b136 x1 x2 x5 x3 S_114 Q k38 k44 k61) ∧ (¬ 0 ≤ (lg_cmp x6_121 x3) → X7_byRoom_b136 x1 x2 x5 x6_121 S_114 Q k38 k44 k61)))))
def X7_byRoom_L61 (x1 : Int32) (x2 : Int32) (Q : ZS → Prop) (k38 : Int32 × ZS → Prop) (k44 : Int32 × ZS → Prop) : (Int64 × Int32 × ZS) → ((Int64 × Int32 × ZS) → Prop) → Prop := fun st k61 => X7_byRoom_B61 x1 x2 st.1 st.2.1 st.2.2 Q k38 k44 k61
def X7_byRoom_B44 (x1 : Int32) (x2 : Int32) (S : ZS) (Q : ZS → Prop) (k38 : Int32 × ZS → Prop) (k44 : Int32 × ZS → Prop) : Prop :=
  vp_in (0 : Int32) 8 ∧ ((S.1 66 ((0 : Int32)).toNatClampNeg) < x2 → X7_byRoom_b162 x1 S Q k38) ∧ (¬ (S.1 66 ((0 : Int32)).toNatClampNeg) < x2 → zl (X7_byRoom_L61 x1 x2 Q k38 k44) ((1000000000000 : Int64), (0 : Int32), S))
def X7_byRoom_L44 (x1 : Int32) (Q : ZS → Prop) (k38 : Int32 × ZS → Prop) : (Int32 × ZS) → ((Int32 × ZS) → Prop) → Prop := fun st k44 => X7_byRoom_B44 x1 st.1 st.2 Q k38 k44
def X7_byRoom_B38 (x1 : Int32) (S : ZS) (Q : ZS → Prop) (k38 : Int32 × ZS → Prop) : Prop :=
  (x1 < 0 → X7_byRoom_b168 S Q) ∧ (¬ x1 < 0 → zl (X7_byRoom_L44 x1 Q k38) ((0 : Int32), S))
def X7_byRoom_L38 (Q : ZS → Prop) : (Int32 × ZS) → ((Int32 × ZS) → Prop) → Prop := fun st k38 => X7_byRoom_B38 st.1 st.2 Q k38
def X7_byRoom_b31 (S : ZS) (Q : ZS → Prop) : Prop :=
  ∀ x1_37 : Int32, x1_37 = ((S.1 61 1) - (1 : Int32)) → zl (X7_byRoom_L38 Q) (x1_37, S)
def X7_byRoom_B2 (x1 : Int32) (S : ZS) (Q : ZS → Prop) (k2 : Int32 × ZS → Prop) : Prop :=
  ((300 : Int32) < x1 → X7_byRoom_b31 S Q) ∧ (¬ (300 : Int32) < x1 → vp_in (((301 : Int32) * (S.1 61 1)) + x1) 3311 ∧ ∀ S_24 : ZS, S_24 = zw S 81 ((((301 : Int32) * (S.1 61 1)) + x1)).toNatClampNeg (0 : Int64) → ∀ x1_25 : Int32, x1_25 = x1 + (1 : Int32) → k2 (x1_25, S_24))
def X7_byRoom_L2 (Q : ZS → Prop) : (Int32 × ZS) → ((Int32 × ZS) → Prop) → Prop := fun st k2 => X7_byRoom_B2 st.1 st.2 Q k2
def X7_byRoom (S : ZS) (Q : ZS → Prop) : Prop :=
  zl (X7_byRoom_L2 Q) ((0 : Int32), S)
set_option maxHeartbeats 4000000 in
set_option maxRecDepth 100000 in
theorem c_X7_byRoom (l : Launch) (D : va_G) (k : Nat → ClassId) (a : Nat → Nat) (hj : zDj a) (S : ZS) (Q : ZS → Prop) (hm : X7_byRoom S Q) (sz : Nat) : Met l yX7_byRoom wsX7_byRoom rm_X7_byRoom (zPc D k a [.ref (a 61)] S sz) (va_Qv Q (zB D k a) (zA a sz)) 0 0 (zA a sz) := by
  refine Met.ofW (cc := cX7_byRoom) (maxL := 8) (ret := none) (by decide) rfl ?_
  intro p e s m args below meth c s₁ B hml hv
  obtain ⟨rfl, hsz, hP, hK⟩ := hv
  have hx := B.exec
  have hb := B.bytes
  have hr := B.returns
  have hts := atoms_spec (ws := wsX7_byRoom) B.pre
  have hown : s.vm.findClass RX7 = some m.cls := findClass_of_methodNamed B.named
  have hlocks := B.notSynchronized
  subst hsz
  have hS : va_S (zA a s.heap.size) s.heap s.heap [] := va_S.rf
  have hF : CallFix p m c cX7_byRoom 8 s _ wsX7_byRoom RX7 := ⟨hx, hb, hml, hown, hts⟩
  have i7 : ∀ w ∈ wsX70, w ∈ wsX7_byRoom := fun _ h => (List.mem_cons_of_mem _ (List.mem_append_right _ h))
  have hl := lv_entry ([.ref (a 61)]) (n := 8) (Nat.le_of_ble_eq_true rfl)
  rw [lg_entry_eq]
  generalize (lg_sl ([.ref (a 61)]) ++ List.replicate (8 - (lg_sl ([.ref (a 61)])).length) Slot.unset).toArray = ls at hl ⊢
  have hl : lv_has ls 8 [(0, .ref (a 61))] := hl
  have b31 : ∀ (S : ZS) (H : Heap) (locs : List Loc) (ls : Array Slot), X7_byRoom_b31 S Q → va_P D vwCl (zWS k a S) H → va_S (zA a s.heap.size) s.heap H locs → lv_has ls 8 [(0, .ref (a 61))] → zWv p l e (headSpec wsX7_byRoom rm_X7_byRoom).room s m ([.ref (a 61)] : List Value) below meth c D k a Q H locs (F0 m 31 ls []) := by
    intro S H locs ls hm hP hS hl
    unfold X7_byRoom_b31 at hm
    have b168 : ∀ (S : ZS) (H : Heap) (locs : List Loc) (ls : Array Slot), X7_byRoom_b168 S Q → va_P D vwCl (zWS k a S) H → va_S (zA a s.heap.size) s.heap H locs → lv_has ls 8 [(0, .ref (a 61))] → zWv p l e (headSpec wsX7_byRoom rm_X7_byRoom).room s m ([.ref (a 61)] : List Value) below meth c D k a Q H locs (F0 m 168 ls []) := by
      intro S H locs ls hm hP hS hl
      unfold X7_byRoom_b168 at hm
      have b267 : ∀ (S : ZS) (H : Heap) (locs : List Loc) (ls : Array Slot), X7_byRoom_b267 S Q → va_P D vwCl (zWS k a S) H → va_S (zA a s.heap.size) s.heap H locs → lv_has ls 8 [(0, .ref (a 61))] → zWv p l e (headSpec wsX7_byRoom rm_X7_byRoom).room s m ([.ref (a 61)] : List Value) below meth c D k a Q H locs (F0 m 267 ls []) := by
        intro S H locs ls hm hP hS hl
        unfold X7_byRoom_b267 at hm
        exact z_retv hx hb hr hlocks hP hS hm dX7_byRoom_267
      have L177 : ∀ (n : Nat) (x1 : Int32) (x2 : Int32) (S : ZS) (H : Heap) (locs : List Loc) (ls : Array Slot), zn (X7_byRoom_L177 Q) n (x1, x2, S) → va_P D vwCl (zWS k a S) H → va_S (zA a s.heap.size) s.heap H locs → lv_has ls 8 [(0, .ref (a 61)), (1, .int x1), (2, .int x2)] → zWv p l e (headSpec wsX7_byRoom rm_X7_byRoom).room s m ([.ref (a 61)] : List Value) below meth c D k a Q H locs (F0 m 177 ls []) := by
        intro n
        induction n with
        | zero =>
          intro x1 x2 S H locs ls hm
          exact hm.elim
        | succ n ih177 =>
          intro x1 x2 S H locs ls hm hP hS hl
          have hm : X7_byRoom_B177 x1 x2 S Q (zn (X7_byRoom_L177 Q) n) := hm
          generalize zn (X7_byRoom_L177 Q) n = k177 at hm ih177
          unfold X7_byRoom_B177 at hm
          have b243 : ∀ (x1 : Int32) (x2 : Int32) (x3 : Int32) (S : ZS) (H : Heap) (locs : List Loc) (ls : Array Slot), X7_byRoom_b243 x1 x2 x3 S Q k177 → va_P D vwCl (zWS k a S) H → va_S (zA a s.heap.size) s.heap H locs → lv_has ls 8 [(0, .ref (a 61)), (1, .int x1), (2, .int x2), (3, .int x3)] → zWv p l e (headSpec wsX7_byRoom rm_X7_byRoom).room s m ([.ref (a 61)] : List Value) below meth c D k a Q H locs (F0 m 243 ls []) := by
            intro x1 x2 x3 S H locs ls hm hP hS hl
            unfold X7_byRoom_b243 at hm
            refine lv_aload_n hx hb dX7_byRoom_243 rfl (lv_at hl 0 rfl) ?_
            refine zg_7_best hx hb hts i7 hown hK hP (hts _ (List.mem_of_getElem? (i := 7) rfl)) dX7_byRoom_244 ?_
            refine lv_iload_n hx hb dX7_byRoom_247 rfl (lv_at hl 2 rfl) ?_
            refine lv_iload_n hx hb dX7_byRoom_248 rfl (lv_at hl 3 rfl) ?_
            obtain ⟨h_249, hm⟩ := hm
            refine z_iast hx hb hj hK hP hS zI_68 h_249 dX7_byRoom_249 (fun H locs hP hS => ?_)
            obtain ⟨S_249, eS_249⟩ : ∃ z : ZS, z = zu S 68 (x2).toNatClampNeg x3 := ⟨_, rfl⟩
            rw [← eS_249] at hP
            have hm := hm S_249 eS_249
            refine lv_iload_n hx hb dX7_byRoom_250 rfl (lv_at hl 1 rfl) ?_
            refine lv_iload_n hx hb dX7_byRoom_251 rfl (lv_at hl 3 rfl) ?_
            refine lv_aload_n hx hb dX7_byRoom_252 rfl (lv_at hl 0 rfl) ?_
            refine lv_iconst (v := (0 : Int32)) hx hb dX7_byRoom_253 (by decide) ?_
            refine lv_iload_n hx hb dX7_byRoom_254 rfl (lv_at hl 2 rfl) ?_
            refine z_cVi (As := [.int (0 : Int32), .int x2]) (rest := [.int x3, .int x1]) hF hK hP hS zO_61 rfl rfl (c_X7_coef l D k a hj (0 : Int32) x2 S_249 _ hm _) (cwV 2 hts gX7_byRoom_X7_coef rfl rfl rfl (by decide +kernel) ⟨Nat.le_of_ble_eq_true rfl, Nat.le_of_ble_eq_true rfl⟩) rfl hl.1 rfl (Nat.le_of_ble_eq_true rfl) dX7_byRoom_255 ⟨Nat.zero_le _, Nat.zero_le _⟩ (fun r_255 S_255 H locs hm hP hS => ?_)
            refine lv_imul hx hb dX7_byRoom_258 ?_
            refine lv_isub hx hb dX7_byRoom_259 ?_
            refine lv_topi (fun x1_260 ex1_260 => ?_)
            have hm := hm x1_260 ex1_260
            refine lv_istore_n (lv' := [(1, .int x1_260), (0, .ref (a 61)), (2, .int x2), (3, .int x3)]) hx hb dX7_byRoom_260 rfl hl (by decide) rfl (fun ls hl => ?_)
            obtain ⟨x2_261, ex2_261⟩ : ∃ y : Int32, y = x2 + (1 : Int32) := ⟨_, rfl⟩
            have hm := hm x2_261 ex2_261
            refine lv_iinc (v := x2_261) (lv' := [(2, .int x2_261), (1, .int x1_260), (0, .ref (a 61)), (3, .int x3)]) hx hb dX7_byRoom_261 hl (k := 2) rfl (by rw [ex2_261]; rfl) (by decide) rfl (fun ls hl => ?_)
            refine lv_goto (tgt := 177) hx hb dX7_byRoom_264 (by decide) ?_
            exact ih177 x1_260 x2_261 S_255 _ _ _ hm hP hS (lv_sub hl [2, 1, 0] rfl)
          have L187 : ∀ (x1 : Int32) (x2 : Int32) (n : Nat) (x3 : Int32) (S : ZS) (H : Heap) (locs : List Loc) (ls : Array Slot), zn (X7_byRoom_L187 x1 x2 Q k177) n (x3, S) → va_P D vwCl (zWS k a S) H → va_S (zA a s.heap.size) s.heap H locs → lv_has ls 8 [(0, .ref (a 61)), (1, .int x1), (2, .int x2), (3, .int x3)] → zWv p l e (headSpec wsX7_byRoom rm_X7_byRoom).room s m ([.ref (a 61)] : List Value) below meth c D k a Q H locs (F0 m 187 ls []) := by
            intro x1 x2 n
            induction n with
            | zero =>
              intro x3 S H locs ls hm
              exact hm.elim
            | succ n ih187 =>
              intro x3 S H locs ls hm hP hS hl
              have hm : X7_byRoom_B187 x1 x2 x3 S Q k177 (zn (X7_byRoom_L187 x1 x2 Q k177) n) := hm
              generalize zn (X7_byRoom_L187 x1 x2 Q k177) n = k187 at hm ih187
              unfold X7_byRoom_B187 at hm
              refine lv_iload_n hx hb dX7_byRoom_187 rfl (lv_at hl 3 rfl) ?_
              refine lv_i2l hx hb dX7_byRoom_188 rfl ?_
              refine lv_aload_n hx hb dX7_byRoom_189 rfl (lv_at hl 0 rfl) ?_
              refine zg_7_costs hx hb hts i7 hown hK hP (hts _ (List.mem_of_getElem? (i := 6) rfl)) dX7_byRoom_190 ?_
              refine lv_iload_n hx hb dX7_byRoom_193 rfl (lv_at hl 2 rfl) ?_
              obtain ⟨h_194, hm⟩ := hm
              refine z_iald hx hb hK hP zI_64 h_194 dX7_byRoom_194 ?_
              refine lv_i2l hx hb dX7_byRoom_195 rfl ?_
              refine lv_lmul hx hb dX7_byRoom_196 ?_
              refine lv_aload_n hx hb dX7_byRoom_197 rfl (lv_at hl 0 rfl) ?_
              refine zg_7_least0 hx hb hts i7 hown hK hP (hts _ (List.mem_of_getElem? (i := 1) rfl)) dX7_byRoom_198 ?_
              refine lv_sipush (v := (301 : Int32)) hx hb dX7_byRoom_201 (by decide) ?_
              refine lv_iload_n hx hb dX7_byRoom_204 rfl (lv_at hl 2 rfl) ?_
              refine lv_iconst (v := (1 : Int32)) hx hb dX7_byRoom_205 (by decide) ?_
              refine lv_iadd hx hb dX7_byRoom_206 ?_
              refine lv_imul hx hb dX7_byRoom_207 ?_
              refine lv_iload_n hx hb dX7_byRoom_208 rfl (lv_at hl 1 rfl) ?_
              refine lv_iadd hx hb dX7_byRoom_209 ?_
              refine lv_iload_n hx hb dX7_byRoom_210 rfl (lv_at hl 3 rfl) ?_
              refine lv_aload_n hx hb dX7_byRoom_211 rfl (lv_at hl 0 rfl) ?_
              refine lv_iconst (v := (0 : Int32)) hx hb dX7_byRoom_212 (by decide) ?_
              refine lv_iload_n hx hb dX7_byRoom_213 rfl (lv_at hl 2 rfl) ?_
              refine z_cVi (As := [.int (0 : Int32), .int x2]) (rest := [.int x3, .int (((301 : Int32) * (x2 + (1 : Int32))) + x1), .ref (a 81), .long ((Int32.toInt64 x3) * (Int32.toInt64 (S.1 64 (x2).toNatClampNeg)))]) hF hK hP hS zO_61 rfl rfl (c_X7_coef l D k a hj (0 : Int32) x2 S _ hm _) (cwV 2 hts gX7_byRoom_X7_coef rfl rfl rfl (by decide +kernel) ⟨Nat.le_of_ble_eq_true rfl, Nat.le_of_ble_eq_true rfl⟩) rfl hl.1 rfl (Nat.le_of_ble_eq_true rfl) dX7_byRoom_214 ⟨Nat.zero_le _, Nat.zero_le _⟩ (fun r_214 S_214 H locs hm hP hS => ?_)
              refine lv_imul hx hb dX7_byRoom_217 ?_
              refine lv_isub hx hb dX7_byRoom_218 ?_
              obtain ⟨h_219, hm⟩ := hm
              refine z_lald hx hb hK hP zJ_81 h_219 dX7_byRoom_219 ?_
              refine lv_ladd hx hb dX7_byRoom_220 ?_
              refine lv_aload_n hx hb dX7_byRoom_221 rfl (lv_at hl 0 rfl) ?_
              refine zg_7_least0 hx hb hts i7 hown hK hP (hts _ (List.mem_of_getElem? (i := 1) rfl)) dX7_byRoom_222 ?_
              refine lv_sipush (v := (301 : Int32)) hx hb dX7_byRoom_225 (by decide) ?_
              refine lv_iload_n hx hb dX7_byRoom_228 rfl (lv_at hl 2 rfl) ?_
              refine lv_imul hx hb dX7_byRoom_229 ?_
              refine lv_iload_n hx hb dX7_byRoom_230 rfl (lv_at hl 1 rfl) ?_
              refine lv_iadd hx hb dX7_byRoom_231 ?_
              obtain ⟨h_232, hm⟩ := hm
              refine z_lald hx hb hK hP zJ_81 h_232 dX7_byRoom_232 ?_
              refine W.lcmp hx hb dX7_byRoom_233 ?_
              refine lv_if_eq (tgt := 243) hx hb dX7_byRoom_234 (by decide) (fun c_234 => ?_) (fun c_234 => ?_)
              · have hm := hm.1 c_234
                exact b243 x1 x2 x3 S_214 _ _ _ hm hP hS (lv_sub hl [0, 1, 2, 3] rfl)
              · have hm := hm.2 c_234
                obtain ⟨x3_237, ex3_237⟩ : ∃ y : Int32, y = x3 + (1 : Int32) := ⟨_, rfl⟩
                have hm := hm x3_237 ex3_237
                refine lv_iinc (v := x3_237) (lv' := [(3, .int x3_237), (0, .ref (a 61)), (1, .int x1), (2, .int x2)]) hx hb dX7_byRoom_237 hl (k := 3) rfl (by rw [ex3_237]; rfl) (by decide) rfl (fun ls hl => ?_)
                refine lv_goto (tgt := 187) hx hb dX7_byRoom_240 (by decide) ?_
                exact ih187 x3_237 S_214 _ _ _ hm hP hS (lv_sub hl [1, 2, 3, 0] rfl)
          refine lv_iload_n hx hb dX7_byRoom_177 rfl (lv_at hl 2 rfl) ?_
          refine lv_aload_n hx hb dX7_byRoom_178 rfl (lv_at hl 0 rfl) ?_
          refine zg_7_columns hx hb hts i7 hown hK hP (hts _ (List.mem_of_getElem? (i := 2) rfl)) dX7_byRoom_179 ?_
          refine lv_icmp_ge (tgt := 267) hx hb dX7_byRoom_182 (by decide) (fun c_182 => ?_) (fun c_182 => ?_)
          · have hm := hm.1 c_182
            exact b267  S _ _ _ hm hP hS (lv_sub hl [0] rfl)
          · have hm := hm.2 c_182
            refine lv_iconst (v := (0 : Int32)) hx hb dX7_byRoom_185 (by decide) ?_
            refine lv_istore_n (lv' := [(3, .int (0 : Int32)), (0, .ref (a 61)), (1, .int x1), (2, .int x2)]) hx hb dX7_byRoom_186 rfl hl (by decide) rfl (fun ls hl => ?_)
            obtain ⟨n187, hm⟩ := hm
            exact L187 x1 x2 n187 (0 : Int32) S _ _ _ hm hP hS (lv_sub hl [1, 2, 3, 0] rfl)
      refine lv_aload_n hx hb dX7_byRoom_168 rfl (lv_at hl 0 rfl) ?_
      refine zg_7_rights hx hb hts i7 hown hK hP (hts _ (List.mem_of_getElem? (i := 3) rfl)) dX7_byRoom_169 ?_
      refine lv_iconst (v := (0 : Int32)) hx hb dX7_byRoom_172 (by decide) ?_
      obtain ⟨h_173, hm⟩ := hm
      refine z_iald hx hb hK hP zI_66 h_173 dX7_byRoom_173 ?_
      refine lv_topi (fun x1_174 ex1_174 => ?_)
      have hm := hm x1_174 ex1_174
      refine lv_istore_n (lv' := [(1, .int x1_174), (0, .ref (a 61))]) hx hb dX7_byRoom_174 rfl hl (by decide) rfl (fun ls hl => ?_)
      refine lv_iconst (v := (0 : Int32)) hx hb dX7_byRoom_175 (by decide) ?_
      refine lv_istore_n (lv' := [(2, .int (0 : Int32)), (1, .int x1_174), (0, .ref (a 61))]) hx hb dX7_byRoom_176 rfl hl (by decide) rfl (fun ls hl => ?_)
      obtain ⟨n177, hm⟩ := hm
      exact L177 n177 x1_174 (0 : Int32) S _ _ _ hm hP hS (lv_sub hl [2, 1, 0] rfl)
    have L38 : ∀ (n : Nat) (x1 : Int32) (S : ZS) (H : Heap) (locs : List Loc) (ls : Array Slot), zn (X7_byRoom_L38 Q) n (x1, S) → va_P D vwCl (zWS k a S) H → va_S (zA a s.heap.size) s.heap H locs → lv_has ls 8 [(0, .ref (a 61)), (1, .int x1)] → zWv p l e (headSpec wsX7_byRoom rm_X7_byRoom).room s m ([.ref (a 61)] : List Value) below meth c D k a Q H locs (F0 m 38 ls []) := by
      intro n
      induction n with
      | zero =>
        intro x1 S H locs ls hm
        exact hm.elim
      | succ n ih38 =>
        intro x1 S H locs ls hm hP hS hl
        have hm : X7_byRoom_B38 x1 S Q (zn (X7_byRoom_L38 Q) n) := hm
        generalize zn (X7_byRoom_L38 Q) n = k38 at hm ih38
        unfold X7_byRoom_B38 at hm
        have b162 : ∀ (x1 : Int32) (S : ZS) (H : Heap) (locs : List Loc) (ls : Array Slot), X7_byRoom_b162 x1 S Q k38 → va_P D vwCl (zWS k a S) H → va_S (zA a s.heap.size) s.heap H locs → lv_has ls 8 [(0, .ref (a 61)), (1, .int x1)] → zWv p l e (headSpec wsX7_byRoom rm_X7_byRoom).room s m ([.ref (a 61)] : List Value) below meth c D k a Q H locs (F0 m 162 ls []) := by
          intro x1 S H locs ls hm hP hS hl
          unfold X7_byRoom_b162 at hm
          obtain ⟨x1_162, ex1_162⟩ : ∃ y : Int32, y = x1 + (-1 : Int32) := ⟨_, rfl⟩
          have hm := hm x1_162 ex1_162
          refine lv_iinc (v := x1_162) (lv' := [(1, .int x1_162), (0, .ref (a 61))]) hx hb dX7_byRoom_162 hl (k := 1) rfl (by rw [ex1_162]; rfl) (by decide) rfl (fun ls hl => ?_)
          refine lv_goto (tgt := 38) hx hb dX7_byRoom_165 (by decide) ?_
          exact ih38 x1_162 S _ _ _ hm hP hS (lv_sub hl [1, 0] rfl)
        have L44 : ∀ (x1 : Int32) (n : Nat) (x2 : Int32) (S : ZS) (H : Heap) (locs : List Loc) (ls : Array Slot), zn (X7_byRoom_L44 x1 Q k38) n (x2, S) → va_P D vwCl (zWS k a S) H → va_S (zA a s.heap.size) s.heap H locs → lv_has ls 8 [(0, .ref (a 61)), (1, .int x1), (2, .int x2)] → zWv p l e (headSpec wsX7_byRoom rm_X7_byRoom).room s m ([.ref (a 61)] : List Value) below meth c D k a Q H locs (F0 m 44 ls []) := by
          intro x1 n
          induction n with
          | zero =>
            intro x2 S H locs ls hm
            exact hm.elim
          | succ n ih44 =>
            intro x2 S H locs ls hm hP hS hl
            have hm : X7_byRoom_B44 x1 x2 S Q k38 (zn (X7_byRoom_L44 x1 Q k38) n) := hm
            generalize zn (X7_byRoom_L44 x1 Q k38) n = k44 at hm ih44
            unfold X7_byRoom_B44 at hm
            have b143 : ∀ (x2 : Int32) (x3 : Int64) (S : ZS) (H : Heap) (locs : List Loc) (ls : Array Slot), X7_byRoom_b143 x1 x2 x3 S Q k38 k44 → va_P D vwCl (zWS k a S) H → va_S (zA a s.heap.size) s.heap H locs → lv_has ls 8 [(0, .ref (a 61)), (1, .int x1), (2, .int x2), (3, .long x3)] → zWv p l e (headSpec wsX7_byRoom rm_X7_byRoom).room s m ([.ref (a 61)] : List Value) below meth c D k a Q H locs (F0 m 143 ls []) := by
              intro x2 x3 S H locs ls hm hP hS hl
              unfold X7_byRoom_b143 at hm
              refine lv_aload_n hx hb dX7_byRoom_143 rfl (lv_at hl 0 rfl) ?_
              refine zg_7_least0 hx hb hts i7 hown hK hP (hts _ (List.mem_of_getElem? (i := 1) rfl)) dX7_byRoom_144 ?_
              refine lv_sipush (v := (301 : Int32)) hx hb dX7_byRoom_147 (by decide) ?_
              refine lv_iload_n hx hb dX7_byRoom_150 rfl (lv_at hl 1 rfl) ?_
              refine lv_imul hx hb dX7_byRoom_151 ?_
              refine lv_iload_n hx hb dX7_byRoom_152 rfl (lv_at hl 2 rfl) ?_
              refine lv_iadd hx hb dX7_byRoom_153 ?_
              refine lv_lload_n hx hb dX7_byRoom_154 rfl (lv_at hl 3 rfl) ?_
              obtain ⟨h_155, hm⟩ := hm
              refine z_last hx hb hj hK hP hS zJ_81 h_155 dX7_byRoom_155 (fun H locs hP hS => ?_)
              obtain ⟨S_155, eS_155⟩ : ∃ z : ZS, z = zw S 81 ((((301 : Int32) * x1) + x2)).toNatClampNeg x3 := ⟨_, rfl⟩
              rw [← eS_155] at hP
              have hm := hm S_155 eS_155
              obtain ⟨x2_156, ex2_156⟩ : ∃ y : Int32, y = x2 + (1 : Int32) := ⟨_, rfl⟩
              have hm := hm x2_156 ex2_156
              refine lv_iinc (v := x2_156) (lv' := [(2, .int x2_156), (0, .ref (a 61)), (1, .int x1), (3, .long x3)]) hx hb dX7_byRoom_156 hl (k := 2) rfl (by rw [ex2_156]; rfl) (by decide) rfl (fun ls hl => ?_)
              refine lv_goto (tgt := 44) hx hb dX7_byRoom_159 (by decide) ?_
              exact ih44 x2_156 S_155 _ _ _ hm hP hS (lv_sub hl [1, 2, 0] rfl)
            have L61 : ∀ (x2 : Int32) (n : Nat) (x3 : Int64) (x5 : Int32) (S : ZS) (H : Heap) (locs : List Loc) (ls : Array Slot), zn (X7_byRoom_L61 x1 x2 Q k38 k44) n (x3, x5, S) → va_P D vwCl (zWS k a S) H → va_S (zA a s.heap.size) s.heap H locs → lv_has ls 8 [(0, .ref (a 61)), (1, .int x1), (2, .int x2), (3, .long x3), (5, .int x5)] → zWv p l e (headSpec wsX7_byRoom rm_X7_byRoom).room s m ([.ref (a 61)] : List Value) below meth c D k a Q H locs (F0 m 61 ls []) := by
              intro x2 n
              induction n with
              | zero =>
                intro x3 x5 S H locs ls hm
                exact hm.elim
              | succ n ih61 =>
                intro x3 x5 S H locs ls hm hP hS hl
                have hm : X7_byRoom_B61 x1 x2 x3 x5 S Q k38 k44 (zn (X7_byRoom_L61 x1 x2 Q k38 k44) n) := hm
                generalize zn (X7_byRoom_L61 x1 x2 Q k38 k44) n = k61 at hm ih61
                unfold X7_byRoom_B61 at hm
                have b136 : ∀ (x5 : Int32) (t0 : Int64) (S : ZS) (H : Heap) (locs : List Loc) (ls : Array Slot), X7_byRoom_b136 x1 x2 x5 t0 S Q k38 k44 k61 → va_P D vwCl (zWS k a S) H → va_S (zA a s.heap.size) s.heap H locs → lv_has ls 8 [(0, .ref (a 61)), (1, .int x1), (2, .int x2), (5, .int x5)] → zWv p l e (headSpec wsX7_byRoom rm_X7_byRoom).room s m ([.ref (a 61)] : List Value) below meth c D k a Q H locs (F0 m 136 ls [.long t0]) := by
                  intro x5 t0 S H locs ls hm hP hS hl
                  unfold X7_byRoom_b136 at hm
                  refine lv_lstore_n (lv' := [(3, .long t0), (0, .ref (a 61)), (1, .int x1), (2, .int x2), (5, .int x5)]) hx hb dX7_byRoom_136 rfl hl (by decide) rfl (fun ls hl => ?_)
                  obtain ⟨x5_137, ex5_137⟩ : ∃ y : Int32, y = x5 + (1 : Int32) := ⟨_, rfl⟩
                  have hm := hm x5_137 ex5_137
                  refine lv_iinc (v := x5_137) (lv' := [(5, .int x5_137), (3, .long t0), (0, .ref (a 61)), (1, .int x1), (2, .int x2)]) hx hb dX7_byRoom_137 hl (k := 4) rfl (by rw [ex5_137]; rfl) (by decide) rfl (fun ls hl => ?_)
                  refine lv_goto (tgt := 61) hx hb dX7_byRoom_140 (by decide) ?_
                  exact ih61 t0 x5_137 S _ _ _ hm hP hS (lv_sub hl [2, 3, 4, 1, 0] rfl)
                refine lv_iload hx hb dX7_byRoom_61 (lv_at hl 4 rfl) ?_
                refine lv_aload_n hx hb dX7_byRoom_63 rfl (lv_at hl 0 rfl) ?_
                refine zg_7_highs hx hb hts i7 hown hK hP (hts _ (List.mem_of_getElem? (i := 5) rfl)) dX7_byRoom_64 ?_
                refine lv_iload_n hx hb dX7_byRoom_67 rfl (lv_at hl 1 rfl) ?_
                obtain ⟨h_68, hm⟩ := hm
                refine z_iald hx hb hK hP zI_63 h_68 dX7_byRoom_68 ?_
                refine lv_icmp_gt (tgt := 143) hx hb dX7_byRoom_69 (by decide) (fun c_69 => ?_) (fun c_69 => ?_)
                · have hm := hm.1 c_69
                  exact b143 x2 x3 S _ _ _ hm hP hS (lv_sub hl [0, 1, 2, 3] rfl)
                · have hm := hm.2 c_69
                  refine lv_iload hx hb dX7_byRoom_72 (lv_at hl 4 rfl) ?_
                  refine lv_aload_n hx hb dX7_byRoom_74 rfl (lv_at hl 0 rfl) ?_
                  refine lv_iconst (v := (0 : Int32)) hx hb dX7_byRoom_75 (by decide) ?_
                  refine lv_iload_n hx hb dX7_byRoom_76 rfl (lv_at hl 1 rfl) ?_
                  refine z_cVi (As := [.int (0 : Int32), .int x1]) (rest := [.int x5]) hF hK hP hS zO_61 rfl rfl (c_X7_coef l D k a hj (0 : Int32) x1 S _ hm _) (cwV 2 hts gX7_byRoom_X7_coef rfl rfl rfl (by decide +kernel) ⟨Nat.le_of_ble_eq_true rfl, Nat.le_of_ble_eq_true rfl⟩) rfl hl.1 rfl (Nat.le_of_ble_eq_true rfl) dX7_byRoom_77 ⟨Nat.zero_le _, Nat.zero_le _⟩ (fun r_77 S_77 H locs hm hP hS => ?_)
                  refine lv_imul hx hb dX7_byRoom_80 ?_
                  refine lv_iload_n hx hb dX7_byRoom_81 rfl (lv_at hl 2 rfl) ?_
                  refine lv_icmp_gt (tgt := 143) hx hb dX7_byRoom_82 (by decide) (fun c_82 => ?_) (fun c_82 => ?_)
                  · have hm := hm.1 c_82
                    exact b143 x2 x3 S_77 _ _ _ hm hP hS (lv_sub hl [0, 1, 2, 3] rfl)
                  · have hm := hm.2 c_82
                    refine lv_iload hx hb dX7_byRoom_85 (lv_at hl 4 rfl) ?_
                    refine lv_i2l hx hb dX7_byRoom_87 rfl ?_
                    refine lv_aload_n hx hb dX7_byRoom_88 rfl (lv_at hl 0 rfl) ?_
                    refine zg_7_costs hx hb hts i7 hown hK hP (hts _ (List.mem_of_getElem? (i := 6) rfl)) dX7_byRoom_89 ?_
                    refine lv_iload_n hx hb dX7_byRoom_92 rfl (lv_at hl 1 rfl) ?_
                    obtain ⟨h_93, hm⟩ := hm
                    refine z_iald hx hb hK hP zI_64 h_93 dX7_byRoom_93 ?_
                    refine lv_i2l hx hb dX7_byRoom_94 rfl ?_
                    refine lv_lmul hx hb dX7_byRoom_95 ?_
                    refine lv_aload_n hx hb dX7_byRoom_96 rfl (lv_at hl 0 rfl) ?_
                    refine zg_7_least0 hx hb hts i7 hown hK hP (hts _ (List.mem_of_getElem? (i := 1) rfl)) dX7_byRoom_97 ?_
                    refine lv_sipush (v := (301 : Int32)) hx hb dX7_byRoom_100 (by decide) ?_
                    refine lv_iload_n hx hb dX7_byRoom_103 rfl (lv_at hl 1 rfl) ?_
                    refine lv_iconst (v := (1 : Int32)) hx hb dX7_byRoom_104 (by decide) ?_
                    refine lv_iadd hx hb dX7_byRoom_105 ?_
                    refine lv_imul hx hb dX7_byRoom_106 ?_
                    refine lv_iload_n hx hb dX7_byRoom_107 rfl (lv_at hl 2 rfl) ?_
                    refine lv_iadd hx hb dX7_byRoom_108 ?_
                    refine lv_iload hx hb dX7_byRoom_109 (lv_at hl 4 rfl) ?_
                    refine lv_aload_n hx hb dX7_byRoom_111 rfl (lv_at hl 0 rfl) ?_
                    refine lv_iconst (v := (0 : Int32)) hx hb dX7_byRoom_112 (by decide) ?_
                    refine lv_iload_n hx hb dX7_byRoom_113 rfl (lv_at hl 1 rfl) ?_
                    refine z_cVi (As := [.int (0 : Int32), .int x1]) (rest := [.int x5, .int (((301 : Int32) * (x1 + (1 : Int32))) + x2), .ref (a 81), .long ((Int32.toInt64 x5) * (Int32.toInt64 (S_77.1 64 (x1).toNatClampNeg)))]) hF hK hP hS zO_61 rfl rfl (c_X7_coef l D k a hj (0 : Int32) x1 S_77 _ hm _) (cwV 2 hts gX7_byRoom_X7_coef rfl rfl rfl (by decide +kernel) ⟨Nat.le_of_ble_eq_true rfl, Nat.le_of_ble_eq_true rfl⟩) rfl hl.1 rfl (Nat.le_of_ble_eq_true rfl) dX7_byRoom_114 ⟨Nat.zero_le _, Nat.zero_le _⟩ (fun r_114 S_114 H locs hm hP hS => ?_)
                    refine lv_imul hx hb dX7_byRoom_117 ?_
                    refine lv_isub hx hb dX7_byRoom_118 ?_
                    obtain ⟨h_119, hm⟩ := hm
                    refine z_lald hx hb hK hP zJ_81 h_119 dX7_byRoom_119 ?_
                    refine lv_ladd hx hb dX7_byRoom_120 ?_
                    refine lv_topl (fun x6_121 ex6_121 => ?_)
                    have hm := hm x6_121 ex6_121
                    refine lv_lstore (lv' := [(6, .long x6_121), (0, .ref (a 61)), (1, .int x1), (2, .int x2), (3, .long x3), (5, .int x5)]) hx hb dX7_byRoom_121 hl (by decide) rfl (fun ls hl => ?_)
                    refine lv_lload hx hb dX7_byRoom_123 (lv_at hl 0 rfl) ?_
                    refine lv_lload_n hx hb dX7_byRoom_125 rfl (lv_at hl 4 rfl) ?_
                    refine W.lcmp hx hb dX7_byRoom_126 ?_
                    refine lv_if_ge (tgt := 135) hx hb dX7_byRoom_127 (by decide) (fun c_127 => ?_) (fun c_127 => ?_)
                    · have hm := hm.1 c_127
                      refine lv_lload_n hx hb dX7_byRoom_135 rfl (lv_at hl 4 rfl) ?_
                      exact b136 x5 x3 S_114 _ _ _ hm hP hS (lv_sub hl [1, 2, 3, 5] rfl)
                    · have hm := hm.2 c_127
                      refine lv_lload hx hb dX7_byRoom_130 (lv_at hl 0 rfl) ?_
                      refine lv_goto (tgt := 136) hx hb dX7_byRoom_132 (by decide) ?_
                      exact b136 x5 x6_121 S_114 _ _ _ hm hP hS (lv_sub hl [1, 2, 3, 5] rfl)
            refine lv_iload_n hx hb dX7_byRoom_44 rfl (lv_at hl 2 rfl) ?_
            refine lv_aload_n hx hb dX7_byRoom_45 rfl (lv_at hl 0 rfl) ?_
            refine zg_7_rights hx hb hts i7 hown hK hP (hts _ (List.mem_of_getElem? (i := 3) rfl)) dX7_byRoom_46 ?_
            refine lv_iconst (v := (0 : Int32)) hx hb dX7_byRoom_49 (by decide) ?_
            obtain ⟨h_50, hm⟩ := hm
            refine z_iald hx hb hK hP zI_66 h_50 dX7_byRoom_50 ?_
            refine lv_icmp_gt (tgt := 162) hx hb dX7_byRoom_51 (by decide) (fun c_51 => ?_) (fun c_51 => ?_)
            · have hm := hm.1 c_51
              exact b162 x1 S _ _ _ hm hP hS (lv_sub hl [0, 1] rfl)
            · have hm := hm.2 c_51
              refine lv_ldc2 (v := (1000000000000 : Int64)) hx hb hown (hts _ (List.mem_of_getElem? (i := 4) rfl)) dX7_byRoom_54 ?_
              refine lv_lstore_n (lv' := [(3, .long (1000000000000 : Int64)), (0, .ref (a 61)), (1, .int x1), (2, .int x2)]) hx hb dX7_byRoom_57 rfl hl (by decide) rfl (fun ls hl => ?_)
              refine lv_iconst (v := (0 : Int32)) hx hb dX7_byRoom_58 (by decide) ?_
              refine lv_istore (lv' := [(5, .int (0 : Int32)), (3, .long (1000000000000 : Int64)), (0, .ref (a 61)), (1, .int x1), (2, .int x2)]) hx hb dX7_byRoom_59 hl (by decide) rfl (fun ls hl => ?_)
              obtain ⟨n61, hm⟩ := hm
              exact L61 x2 n61 (1000000000000 : Int64) (0 : Int32) S _ _ _ hm hP hS (lv_sub hl [2, 3, 4, 1, 0] rfl)
        refine lv_iload_n hx hb dX7_byRoom_38 rfl (lv_at hl 1 rfl) ?_
        refine lv_if_lt (tgt := 168) hx hb dX7_byRoom_39 (by decide) (fun c_39 => ?_) (fun c_39 => ?_)
        · have hm := hm.1 c_39
          exact b168  S _ _ _ hm hP hS (lv_sub hl [0] rfl)
        · have hm := hm.2 c_39
          refine lv_iconst (v := (0 : Int32)) hx hb dX7_byRoom_42 (by decide) ?_
          refine lv_istore_n (lv' := [(2, .int (0 : Int32)), (0, .ref (a 61)), (1, .int x1)]) hx hb dX7_byRoom_43 rfl hl (by decide) rfl (fun ls hl => ?_)
          obtain ⟨n44, hm⟩ := hm
          exact L44 x1 n44 (0 : Int32) S _ _ _ hm hP hS (lv_sub hl [1, 2, 0] rfl)
    refine lv_aload_n hx hb dX7_byRoom_31 rfl (lv_at hl 0 rfl) ?_
    refine zg_7_columns hx hb hts i7 hown hK hP (hts _ (List.mem_of_getElem? (i := 2) rfl)) dX7_byRoom_32 ?_
    refine lv_iconst (v := (1 : Int32)) hx hb dX7_byRoom_35 (by decide) ?_
    refine lv_isub hx hb dX7_byRoom_36 ?_
    refine lv_topi (fun x1_37 ex1_37 => ?_)
    have hm := hm x1_37 ex1_37
    refine lv_istore_n (lv' := [(1, .int x1_37), (0, .ref (a 61))]) hx hb dX7_byRoom_37 rfl hl (by decide) rfl (fun ls hl => ?_)
    obtain ⟨n38, hm⟩ := hm
    exact L38 n38 x1_37 S _ _ _ hm hP hS (lv_sub hl [1, 0] rfl)
  have L2 : ∀ (n : Nat) (x1 : Int32) (S : ZS) (H : Heap) (locs : List Loc) (ls : Array Slot), zn (X7_byRoom_L2 Q) n (x1, S) → va_P D vwCl (zWS k a S) H → va_S (zA a s.heap.size) s.heap H locs → lv_has ls 8 [(0, .ref (a 61)), (1, .int x1)] → zWv p l e (headSpec wsX7_byRoom rm_X7_byRoom).room s m ([.ref (a 61)] : List Value) below meth c D k a Q H locs (F0 m 2 ls []) := by
    intro n
    induction n with
    | zero =>
      intro x1 S H locs ls hm
      exact hm.elim
    | succ n ih2 =>
      intro x1 S H locs ls hm hP hS hl
      have hm : X7_byRoom_B2 x1 S Q (zn (X7_byRoom_L2 Q) n) := hm
      generalize zn (X7_byRoom_L2 Q) n = k2 at hm ih2
      unfold X7_byRoom_B2 at hm
      refine lv_iload_n hx hb dX7_byRoom_2 rfl (lv_at hl 1 rfl) ?_
      refine lv_sipush (v := (300 : Int32)) hx hb dX7_byRoom_3 (by decide) ?_
      refine lv_icmp_gt (tgt := 31) hx hb dX7_byRoom_6 (by decide) (fun c_6 => ?_) (fun c_6 => ?_)
      · have hm := hm.1 c_6
        exact b31  S _ _ _ hm hP hS (lv_sub hl [0] rfl)
      · have hm := hm.2 c_6
        refine lv_aload_n hx hb dX7_byRoom_9 rfl (lv_at hl 0 rfl) ?_
        refine zg_7_least0 hx hb hts i7 hown hK hP (hts _ (List.mem_of_getElem? (i := 1) rfl)) dX7_byRoom_10 ?_
        refine lv_sipush (v := (301 : Int32)) hx hb dX7_byRoom_13 (by decide) ?_
        refine lv_aload_n hx hb dX7_byRoom_16 rfl (lv_at hl 0 rfl) ?_
        refine zg_7_columns hx hb hts i7 hown hK hP (hts _ (List.mem_of_getElem? (i := 2) rfl)) dX7_byRoom_17 ?_
        refine lv_imul hx hb dX7_byRoom_20 ?_
        refine lv_iload_n hx hb dX7_byRoom_21 rfl (lv_at hl 1 rfl) ?_
        refine lv_iadd hx hb dX7_byRoom_22 ?_
        refine lv_lconst (v := (0 : Int64)) hx hb dX7_byRoom_23 (by decide) ?_
        obtain ⟨h_24, hm⟩ := hm
        refine z_last hx hb hj hK hP hS zJ_81 h_24 dX7_byRoom_24 (fun H locs hP hS => ?_)
        obtain ⟨S_24, eS_24⟩ : ∃ z : ZS, z = zw S 81 ((((301 : Int32) * (S.1 61 1)) + x1)).toNatClampNeg (0 : Int64) := ⟨_, rfl⟩
        rw [← eS_24] at hP
        have hm := hm S_24 eS_24
        obtain ⟨x1_25, ex1_25⟩ : ∃ y : Int32, y = x1 + (1 : Int32) := ⟨_, rfl⟩
        have hm := hm x1_25 ex1_25
        refine lv_iinc (v := x1_25) (lv' := [(1, .int x1_25), (0, .ref (a 61))]) hx hb dX7_byRoom_25 hl (k := 1) rfl (by rw [ex1_25]; rfl) (by decide) rfl (fun ls hl => ?_)
        refine lv_goto (tgt := 2) hx hb dX7_byRoom_28 (by decide) ?_
        exact ih2 x1_25 S_24 _ _ _ hm hP hS (lv_sub hl [1, 0] rfl)
  unfold X7_byRoom at hm
  refine lv_iconst (v := (0 : Int32)) hx hb dX7_byRoom_0 (by decide) ?_
  refine lv_istore_n (lv' := [(1, .int (0 : Int32)), (0, .ref (a 61))]) hx hb dX7_byRoom_1 rfl hl (by decide) rfl (fun ls hl => ?_)
  obtain ⟨n2, hm⟩ := hm
  exact L2 n2 (0 : Int32) S _ _ _ hm hP hS (lv_sub hl [1, 0] rfl)

abbrev rm_X7_solve : Room := { frames := 6, cells := 0, slots := 0, locals := 140 }
def X7_solve_b61 (S : ZS) (Q : Int32 → ZS → Prop) : Prop :=
  Q (S.1 61 9) S
def X7_solve_b24 (t0 : Int32) (S : ZS) (Q : Int32 → ZS → Prop) : Prop :=
  zbit t0 ∧ ∀ S_24 : ZS, S_24 = zu S 61 10 t0 → ((S_24.1 61 10) = 0 → X7_isKnapsack S_24 (fun r_46 S_46 => (r_46 = 0 → X7_solve_b61 S_46 Q) ∧ (¬ r_46 = 0 → X7_byRoom S_46 (fun S_53 => ∀ S_58 : ZS, S_58 = zu S_53 61 9 (1 : Int32) → X7_solve_b61 S_58 Q)))) ∧ (¬ (S_24.1 61 10) = 0 → X7_byFlows S_24 (fun r_36 S_36 => ∀ S_39 : ZS, S_39 = zu S_36 61 9 r_36 → X7_solve_b61 S_39 Q))
def X7_solve (S : ZS) (Q : Int32 → ZS → Prop) : Prop :=
  ∀ S_2 : ZS, S_2 = zu S 61 0 (0 : Int32) → ∀ S_7 : ZS, S_7 = zu S_2 61 9 (-1 : Int32) → X7_flowReason S_7 (fun r_12 S_12 => (r_12 = (-1 : Int32) → X7_solve_b24 (1 : Int32) S_12 Q) ∧ (¬ r_12 = (-1 : Int32) → X7_solve_b24 (0 : Int32) S_12 Q))
set_option maxHeartbeats 4000000 in
set_option maxRecDepth 100000 in
theorem c_X7_solve (l : Launch) (D : va_G) (k : Nat → ClassId) (a : Nat → Nat) (hj : zDj a) (S : ZS) (Q : Int32 → ZS → Prop) (hm : X7_solve S Q) (sz : Nat) : Met l yX7_solve wsX7_solve rm_X7_solve (zPc D k a [.ref (a 61)] S sz) (va_Qi Q (zB D k a) (zA a sz)) 0 0 (zA a sz) := by
  refine Met.ofW (cc := cX7_solve) (maxL := 1) (ret := (some .int)) (by decide) rfl ?_
  intro p e s m args below meth c s₁ B hml hv
  obtain ⟨rfl, hsz, hP, hK⟩ := hv
  have hx := B.exec
  have hb := B.bytes
  have hr := B.returns
  have hts := atoms_spec (ws := wsX7_solve) B.pre
  have hown : s.vm.findClass RX7 = some m.cls := findClass_of_methodNamed B.named
  have hlocks := B.notSynchronized
  subst hsz
  have hS : va_S (zA a s.heap.size) s.heap s.heap [] := va_S.rf
  have hF : CallFix p m c cX7_solve 1 s _ wsX7_solve RX7 := ⟨hx, hb, hml, hown, hts⟩
  have i7 : ∀ w ∈ wsX70, w ∈ wsX7_solve := fun _ h => (List.mem_cons_of_mem _ (List.mem_append_right _ h))
  have hl := lv_entry ([.ref (a 61)]) (n := 1) (Nat.le_of_ble_eq_true rfl)
  rw [lg_entry_eq]
  generalize (lg_sl ([.ref (a 61)]) ++ List.replicate (1 - (lg_sl ([.ref (a 61)])).length) Slot.unset).toArray = ls at hl ⊢
  have hl : lv_has ls 1 [(0, .ref (a 61))] := hl
  have b24 : ∀ (t0 : Int32) (S : ZS) (H : Heap) (locs : List Loc) (ls : Array Slot), X7_solve_b24 t0 S Q → va_P D vwCl (zWS k a S) H → va_S (zA a s.heap.size) s.heap H locs → lv_has ls 1 [(0, .ref (a 61))] → zWi p l e (headSpec wsX7_solve rm_X7_solve).room s m ([.ref (a 61)] : List Value) below meth c D k a Q H locs (F0 m 24 ls [.int t0, .ref (a 61)]) := by
    intro t0 S H locs ls hm hP hS hl
    unfold X7_solve_b24 at hm
    have b61 : ∀ (S : ZS) (H : Heap) (locs : List Loc) (ls : Array Slot), X7_solve_b61 S Q → va_P D vwCl (zWS k a S) H → va_S (zA a s.heap.size) s.heap H locs → lv_has ls 1 [(0, .ref (a 61))] → zWi p l e (headSpec wsX7_solve rm_X7_solve).room s m ([.ref (a 61)] : List Value) below meth c D k a Q H locs (F0 m 61 ls []) := by
      intro S H locs ls hm hP hS hl
      unfold X7_solve_b61 at hm
      refine lv_aload_n hx hb dX7_solve_61 rfl (lv_at hl 0 rfl) ?_
      refine zg_7_solved hx hb hts i7 hown hK hP (hts _ (List.mem_of_getElem? (i := 2) rfl)) dX7_solve_62 ?_
      exact z_reti hx hb hr hlocks hP hS hm dX7_solve_65
    obtain ⟨hz_24, hm⟩ := hm
    refine zp_7_byFlow hx hb hts i7 hown hj hK hP hS hz_24 (hts _ (List.mem_of_getElem? (i := 3) rfl)) dX7_solve_24 (fun H locs hP hS => ?_)
    obtain ⟨S_24, eS_24⟩ : ∃ z : ZS, z = zu S 61 10 t0 := ⟨_, rfl⟩
    rw [← eS_24] at hP
    have hm := hm S_24 eS_24
    refine lv_aload_n hx hb dX7_solve_27 rfl (lv_at hl 0 rfl) ?_
    refine zg_7_byFlow hx hb hts i7 hown hK hP (hts _ (List.mem_of_getElem? (i := 3) rfl)) dX7_solve_28 ?_
    refine lv_if_eq (tgt := 45) hx hb dX7_solve_31 (by decide) (fun c_31 => ?_) (fun c_31 => ?_)
    · have hm := hm.1 c_31
      refine lv_aload_n hx hb dX7_solve_45 rfl (lv_at hl 0 rfl) ?_
      refine z_cVi (As := []) (rest := []) hF hK hP hS zO_61 rfl rfl (c_X7_isKnapsack l D k a hj  S_24 _ hm _) (cwV 0 hts gX7_solve_X7_isKnapsack rfl rfl rfl (by decide +kernel) ⟨Nat.le_of_ble_eq_true rfl, Nat.le_of_ble_eq_true rfl⟩) rfl hl.1 rfl (Nat.le_of_ble_eq_true rfl) dX7_solve_46 ⟨Nat.zero_le _, Nat.zero_le _⟩ (fun r_46 S_46 H locs hm hP hS => ?_)
      refine lv_if_eq (tgt := 61) hx hb dX7_solve_49 (by decide) (fun c_49 => ?_) (fun c_49 => ?_)
      · have hm := hm.1 c_49
        exact b61  S_46 _ _ _ hm hP hS (lv_sub hl [0] rfl)
      · have hm := hm.2 c_49
        refine lv_aload_n hx hb dX7_solve_52 rfl (lv_at hl 0 rfl) ?_
        refine z_cVv (As := []) (rest := []) hF hK hP hS zO_61 rfl rfl (c_X7_byRoom l D k a hj  S_46 _ hm _) (cwV 0 hts gX7_solve_X7_byRoom rfl rfl rfl (by decide +kernel) ⟨Nat.le_of_ble_eq_true rfl, Nat.le_of_ble_eq_true rfl⟩) rfl hl.1 rfl (Nat.le_of_ble_eq_true rfl) dX7_solve_53 ⟨Nat.zero_le _, Nat.zero_le _⟩ (fun S_53 H locs hm hP hS => ?_)
        refine lv_aload_n hx hb dX7_solve_56 rfl (lv_at hl 0 rfl) ?_
        refine lv_iconst (v := (1 : Int32)) hx hb dX7_solve_57 (by decide) ?_
        refine zp_7_solved hx hb hts i7 hown hj hK hP hS (hts _ (List.mem_of_getElem? (i := 2) rfl)) dX7_solve_58 (fun H locs hP hS => ?_)
        obtain ⟨S_58, eS_58⟩ : ∃ z : ZS, z = zu S_53 61 9 (1 : Int32) := ⟨_, rfl⟩
        rw [← eS_58] at hP
        have hm := hm S_58 eS_58
        exact b61  S_58 _ _ _ hm hP hS (lv_sub hl [0] rfl)
    · have hm := hm.2 c_31
      refine lv_aload_n hx hb dX7_solve_34 rfl (lv_at hl 0 rfl) ?_
      refine lv_aload_n hx hb dX7_solve_35 rfl (lv_at hl 0 rfl) ?_
      refine z_cVi (As := []) (rest := [.ref (a 61)]) hF hK hP hS zO_61 rfl rfl (c_X7_byFlows l D k a hj  S_24 _ hm _) (cwV 0 hts gX7_solve_X7_byFlows rfl rfl rfl (by decide +kernel) ⟨Nat.le_of_ble_eq_true rfl, Nat.le_of_ble_eq_true rfl⟩) rfl hl.1 rfl (Nat.le_of_ble_eq_true rfl) dX7_solve_36 ⟨Nat.zero_le _, Nat.zero_le _⟩ (fun r_36 S_36 H locs hm hP hS => ?_)
      refine zp_7_solved hx hb hts i7 hown hj hK hP hS (hts _ (List.mem_of_getElem? (i := 2) rfl)) dX7_solve_39 (fun H locs hP hS => ?_)
      obtain ⟨S_39, eS_39⟩ : ∃ z : ZS, z = zu S_36 61 9 r_36 := ⟨_, rfl⟩
      rw [← eS_39] at hP
      have hm := hm S_39 eS_39
      refine lv_goto (tgt := 61) hx hb dX7_solve_42 (by decide) ?_
      exact b61  S_39 _ _ _ hm hP hS (lv_sub hl [0] rfl)
  unfold X7_solve at hm
  refine lv_aload_n hx hb dX7_solve_0 rfl (lv_at hl 0 rfl) ?_
  refine lv_iconst (v := (0 : Int32)) hx hb dX7_solve_1 (by decide) ?_
  refine zp_7_thrown hx hb hts i7 hown hj hK hP hS (hts _ (List.mem_of_getElem? (i := 1) rfl)) dX7_solve_2 (fun H locs hP hS => ?_)
  obtain ⟨S_2, eS_2⟩ : ∃ z : ZS, z = zu S 61 0 (0 : Int32) := ⟨_, rfl⟩
  rw [← eS_2] at hP
  have hm := hm S_2 eS_2
  refine lv_aload_n hx hb dX7_solve_5 rfl (lv_at hl 0 rfl) ?_
  refine lv_iconst (v := (-1 : Int32)) hx hb dX7_solve_6 (by decide) ?_
  refine zp_7_solved hx hb hts i7 hown hj hK hP hS (hts _ (List.mem_of_getElem? (i := 2) rfl)) dX7_solve_7 (fun H locs hP hS => ?_)
  obtain ⟨S_7, eS_7⟩ : ∃ z : ZS, z = zu S_2 61 9 (-1 : Int32) := ⟨_, rfl⟩
  rw [← eS_7] at hP
  have hm := hm S_7 eS_7
  refine lv_aload_n hx hb dX7_solve_10 rfl (lv_at hl 0 rfl) ?_
  refine lv_aload_n hx hb dX7_solve_11 rfl (lv_at hl 0 rfl) ?_
  refine z_cVi (As := []) (rest := [.ref (a 61)]) hF hK hP hS zO_61 rfl rfl (c_X7_flowReason l D k a hj  S_7 _ hm _) (cwV 0 hts gX7_solve_X7_flowReason rfl rfl rfl (by decide +kernel) ⟨Nat.le_of_ble_eq_true rfl, Nat.le_of_ble_eq_true rfl⟩) rfl hl.1 rfl (Nat.le_of_ble_eq_true rfl) dX7_solve_12 ⟨Nat.zero_le _, Nat.zero_le _⟩ (fun r_12 S_12 H locs hm hP hS => ?_)
  refine lv_iconst (v := (-1 : Int32)) hx hb dX7_solve_15 (by decide) ?_
  refine lv_icmp_ne (tgt := 23) hx hb dX7_solve_16 (by decide) (fun c_16 => ?_) (fun c_16 => ?_)
  · have hm := hm.2 c_16
    refine lv_iconst (v := (0 : Int32)) hx hb dX7_solve_23 (by decide) ?_
    exact b24 (0 : Int32) S_12 _ _ _ hm hP hS (lv_sub hl [0] rfl)
  · have hm := hm.1 c_16
    refine lv_iconst (v := (1 : Int32)) hx hb dX7_solve_19 (by decide) ?_
    refine lv_goto (tgt := 24) hx hb dX7_solve_20 (by decide) ?_
    exact b24 (1 : Int32) S_12 _ _ _ hm hP hS (lv_sub hl [0] rfl)

abbrev rm_X7_at : Room := { frames := 2, cells := 0, slots := 0, locals := 46 }
def X7_at_b43 (t0 : Int32) (S : ZS) (Q : Int32 → ZS → Prop) : Prop :=
  Q t0 S
def X7_at_b27 (x1 : Int32) (t0 : Int32) (t1 : Int32) (S : ZS) (Q : Int32 → ZS → Prop) : Prop :=
  X7_passes t1 t0 S (fun r_27 S_27 => (r_27 = 0 → X7_at_b43 (0 : Int32) S_27 Q) ∧ (¬ r_27 = 0 → vp_in x1 10 ∧ X7_at_b43 (S_27.1 68 (x1).toNatClampNeg) S_27 Q))
def X7_at_b14 (x1 : Int32) (t0 : Int32) (S : ZS) (Q : Int32 → ZS → Prop) : Prop :=
  X7_isColumn x1 S (fun r_16 S_16 => (r_16 = 0 → X7_at_b27 x1 (1 : Int32) t0 S_16 Q) ∧ (¬ r_16 = 0 → X7_at_b27 x1 (0 : Int32) t0 S_16 Q))
def X7_at (y1 : Int32) (S : ZS) (Q : Int32 → ZS → Prop) : Prop :=
  ((S.1 61 9) = (1 : Int32) → X7_at_b14 y1 (0 : Int32) S Q) ∧ (¬ (S.1 61 9) = (1 : Int32) → X7_at_b14 y1 (1 : Int32) S Q)
set_option maxHeartbeats 4000000 in
set_option maxRecDepth 100000 in
theorem c_X7_at (l : Launch) (D : va_G) (k : Nat → ClassId) (a : Nat → Nat) (hj : zDj a) (y1 : Int32) (S : ZS) (Q : Int32 → ZS → Prop) (hm : X7_at y1 S Q) (sz : Nat) : Met l yX7_at wsX7_at rm_X7_at (zPc D k a [.ref (a 61), .int y1] S sz) (va_Qi Q (zB D k a) (zA a sz)) 0 0 (zA a sz) := by
  refine Met.ofW (cc := cX7_at) (maxL := 2) (ret := (some .int)) (by decide) rfl ?_
  intro p e s m args below meth c s₁ B hml hv
  obtain ⟨rfl, hsz, hP, hK⟩ := hv
  have hx := B.exec
  have hb := B.bytes
  have hr := B.returns
  have hts := atoms_spec (ws := wsX7_at) B.pre
  have hown : s.vm.findClass RX7 = some m.cls := findClass_of_methodNamed B.named
  have hlocks := B.notSynchronized
  subst hsz
  have hS : va_S (zA a s.heap.size) s.heap s.heap [] := va_S.rf
  have hF : CallFix p m c cX7_at 2 s _ wsX7_at RX7 := ⟨hx, hb, hml, hown, hts⟩
  have i7 : ∀ w ∈ wsX70, w ∈ wsX7_at := fun _ h => (List.mem_cons_of_mem _ (List.mem_append_right _ h))
  have hl := lv_entry ([.ref (a 61), .int y1]) (n := 2) (Nat.le_of_ble_eq_true rfl)
  rw [lg_entry_eq]
  generalize (lg_sl ([.ref (a 61), .int y1]) ++ List.replicate (2 - (lg_sl ([.ref (a 61), .int y1])).length) Slot.unset).toArray = ls at hl ⊢
  have hl : lv_has ls 2 [(0, .ref (a 61)), (1, .int y1)] := hl
  have b14 : ∀ (x1 : Int32) (t0 : Int32) (S : ZS) (H : Heap) (locs : List Loc) (ls : Array Slot), X7_at_b14 x1 t0 S Q → va_P D vwCl (zWS k a S) H → va_S (zA a s.heap.size) s.heap H locs → lv_has ls 2 [(0, .ref (a 61)), (1, .int x1)] → zWi p l e (headSpec wsX7_at rm_X7_at).room s m ([.ref (a 61), .int y1] : List Value) below meth c D k a Q H locs (F0 m 14 ls [.int t0, .ref (a 61)]) := by
    intro x1 t0 S H locs ls hm hP hS hl
    unfold X7_at_b14 at hm
    have b27 : ∀ (x1 : Int32) (t0 : Int32) (t1 : Int32) (S : ZS) (H : Heap) (locs : List Loc) (ls : Array Slot), X7_at_b27 x1 t0 t1 S Q → va_P D vwCl (zWS k a S) H → va_S (zA a s.heap.size) s.heap H locs → lv_has ls 2 [(0, .ref (a 61)), (1, .int x1)] → zWi p l e (headSpec wsX7_at rm_X7_at).room s m ([.ref (a 61), .int y1] : List Value) below meth c D k a Q H locs (F0 m 27 ls [.int t0, .int t1, .ref (a 61)]) := by
      intro x1 t0 t1 S H locs ls hm hP hS hl
      unfold X7_at_b27 at hm
      have b43 : ∀ (t0 : Int32) (S : ZS) (H : Heap) (locs : List Loc) (ls : Array Slot), X7_at_b43 t0 S Q → va_P D vwCl (zWS k a S) H → va_S (zA a s.heap.size) s.heap H locs → lv_has ls 2 [(0, .ref (a 61))] → zWi p l e (headSpec wsX7_at rm_X7_at).room s m ([.ref (a 61), .int y1] : List Value) below meth c D k a Q H locs (F0 m 43 ls [.int t0]) := by
        intro t0 S H locs ls hm hP hS hl
        unfold X7_at_b43 at hm
        exact z_reti hx hb hr hlocks hP hS hm dX7_at_43
      refine z_cVi (As := [.int t1, .int t0]) (rest := []) hF hK hP hS zO_61 rfl rfl (c_X7_passes l D k a hj t1 t0 S _ hm _) (cwV 2 hts gX7_at_X7_passes rfl rfl rfl (by decide +kernel) ⟨Nat.le_of_ble_eq_true rfl, Nat.le_of_ble_eq_true rfl⟩) rfl hl.1 rfl (Nat.le_of_ble_eq_true rfl) dX7_at_27 ⟨Nat.zero_le _, Nat.zero_le _⟩ (fun r_27 S_27 H locs hm hP hS => ?_)
      refine lv_if_eq (tgt := 42) hx hb dX7_at_30 (by decide) (fun c_30 => ?_) (fun c_30 => ?_)
      · have hm := hm.1 c_30
        refine lv_iconst (v := (0 : Int32)) hx hb dX7_at_42 (by decide) ?_
        exact b43 (0 : Int32) S_27 _ _ _ hm hP hS (lv_sub hl [0] rfl)
      · have hm := hm.2 c_30
        refine lv_aload_n hx hb dX7_at_33 rfl (lv_at hl 0 rfl) ?_
        refine zg_7_best hx hb hts i7 hown hK hP (hts _ (List.mem_of_getElem? (i := 2) rfl)) dX7_at_34 ?_
        refine lv_iload_n hx hb dX7_at_37 rfl (lv_at hl 1 rfl) ?_
        obtain ⟨h_38, hm⟩ := hm
        refine z_iald hx hb hK hP zI_68 h_38 dX7_at_38 ?_
        refine lv_goto (tgt := 43) hx hb dX7_at_39 (by decide) ?_
        exact b43 (S_27.1 68 (x1).toNatClampNeg) S_27 _ _ _ hm hP hS (lv_sub hl [0] rfl)
    refine lv_aload_n hx hb dX7_at_14 rfl (lv_at hl 0 rfl) ?_
    refine lv_iload_n hx hb dX7_at_15 rfl (lv_at hl 1 rfl) ?_
    refine z_cVi (As := [.int x1]) (rest := [.int t0, .ref (a 61)]) hF hK hP hS zO_61 rfl rfl (c_X7_isColumn l D k a hj x1 S _ hm _) (cwV 1 hts gX7_at_X7_isColumn rfl rfl rfl (by decide +kernel) ⟨Nat.le_of_ble_eq_true rfl, Nat.le_of_ble_eq_true rfl⟩) rfl hl.1 rfl (Nat.le_of_ble_eq_true rfl) dX7_at_16 ⟨Nat.zero_le _, Nat.zero_le _⟩ (fun r_16 S_16 H locs hm hP hS => ?_)
    refine lv_if_ne (tgt := 26) hx hb dX7_at_19 (by decide) (fun c_19 => ?_) (fun c_19 => ?_)
    · have hm := hm.2 c_19
      refine lv_iconst (v := (0 : Int32)) hx hb dX7_at_26 (by decide) ?_
      exact b27 x1 (0 : Int32) t0 S_16 _ _ _ hm hP hS (lv_sub hl [0, 1] rfl)
    · have hm := hm.1 c_19
      refine lv_iconst (v := (1 : Int32)) hx hb dX7_at_22 (by decide) ?_
      refine lv_goto (tgt := 27) hx hb dX7_at_23 (by decide) ?_
      exact b27 x1 (1 : Int32) t0 S_16 _ _ _ hm hP hS (lv_sub hl [0, 1] rfl)
  unfold X7_at at hm
  refine lv_aload_n hx hb dX7_at_0 rfl (lv_at hl 0 rfl) ?_
  refine lv_aload_n hx hb dX7_at_1 rfl (lv_at hl 0 rfl) ?_
  refine zg_7_solved hx hb hts i7 hown hK hP (hts _ (List.mem_of_getElem? (i := 1) rfl)) dX7_at_2 ?_
  refine lv_iconst (v := (1 : Int32)) hx hb dX7_at_5 (by decide) ?_
  refine lv_icmp_eq (tgt := 13) hx hb dX7_at_6 (by decide) (fun c_6 => ?_) (fun c_6 => ?_)
  · have hm := hm.1 c_6
    refine lv_iconst (v := (0 : Int32)) hx hb dX7_at_13 (by decide) ?_
    exact b14 y1 (0 : Int32) S _ _ _ hm hP hS (lv_sub hl [0, 1] rfl)
  · have hm := hm.2 c_6
    refine lv_iconst (v := (1 : Int32)) hx hb dX7_at_9 (by decide) ?_
    refine lv_goto (tgt := 14) hx hb dX7_at_10 (by decide) ?_
    exact b14 y1 (1 : Int32) S _ _ _ hm hP hS (lv_sub hl [0, 1] rfl)

abbrev rm_X7_value : Room := { frames := 1, cells := 0, slots := 0, locals := 22 }
def X7_value_b55 (x1 : Int32) (S : ZS) (Q : Int32 → ZS → Prop) : Prop :=
  Q x1 S
def X7_value_B25 (x1 : Int32) (x2 : Int32) (S : ZS) (Q : Int32 → ZS → Prop) (k25 : Int32 × Int32 × ZS → Prop) : Prop :=
  ((S.1 61 1) ≤ x2 → X7_value_b55 x1 S Q) ∧ (¬ (S.1 61 1) ≤ x2 → vp_in x2 10 ∧ vp_in x2 10 ∧ ∀ x1_48 : Int32, x1_48 = (x1 + ((S.1 64 (x2).toNatClampNeg) * (S.1 68 (x2).toNatClampNeg))) → ∀ x2_49 : Int32, x2_49 = x2 + (1 : Int32) → k25 (x1_48, x2_49, S))
def X7_value_L25 (Q : Int32 → ZS → Prop) : (Int32 × Int32 × ZS) → ((Int32 × Int32 × ZS) → Prop) → Prop := fun st k25 => X7_value_B25 st.1 st.2.1 st.2.2 Q k25
def X7_value_b16 (x1 : Int32) (t0 : Int32) (S : ZS) (Q : Int32 → ZS → Prop) : Prop :=
  X7_passes t0 (0 : Int32) S (fun r_17 S_17 => (r_17 = 0 → X7_value_b55 x1 S_17 Q) ∧ (¬ r_17 = 0 → zl (X7_value_L25 Q) (x1, (0 : Int32), S_17)))
def X7_value (S : ZS) (Q : Int32 → ZS → Prop) : Prop :=
  ((S.1 61 9) = (1 : Int32) → X7_value_b16 (0 : Int32) (0 : Int32) S Q) ∧ (¬ (S.1 61 9) = (1 : Int32) → X7_value_b16 (0 : Int32) (1 : Int32) S Q)
set_option maxHeartbeats 4000000 in
set_option maxRecDepth 100000 in
theorem c_X7_value (l : Launch) (D : va_G) (k : Nat → ClassId) (a : Nat → Nat) (hj : zDj a) (S : ZS) (Q : Int32 → ZS → Prop) (hm : X7_value S Q) (sz : Nat) : Met l yX7_value wsX7_value rm_X7_value (zPc D k a [.ref (a 61)] S sz) (va_Qi Q (zB D k a) (zA a sz)) 0 0 (zA a sz) := by
  refine Met.ofW (cc := cX7_value) (maxL := 3) (ret := (some .int)) (by decide) rfl ?_
  intro p e s m args below meth c s₁ B hml hv
  obtain ⟨rfl, hsz, hP, hK⟩ := hv
  have hx := B.exec
  have hb := B.bytes
  have hr := B.returns
  have hts := atoms_spec (ws := wsX7_value) B.pre
  have hown : s.vm.findClass RX7 = some m.cls := findClass_of_methodNamed B.named
  have hlocks := B.notSynchronized
  subst hsz
  have hS : va_S (zA a s.heap.size) s.heap s.heap [] := va_S.rf
  have hF : CallFix p m c cX7_value 3 s _ wsX7_value RX7 := ⟨hx, hb, hml, hown, hts⟩
  have i7 : ∀ w ∈ wsX70, w ∈ wsX7_value := fun _ h => (List.mem_cons_of_mem _ (List.mem_append_right _ h))
  have hl := lv_entry ([.ref (a 61)]) (n := 3) (Nat.le_of_ble_eq_true rfl)
  rw [lg_entry_eq]
  generalize (lg_sl ([.ref (a 61)]) ++ List.replicate (3 - (lg_sl ([.ref (a 61)])).length) Slot.unset).toArray = ls at hl ⊢
  have hl : lv_has ls 3 [(0, .ref (a 61))] := hl
  have b16 : ∀ (x1 : Int32) (t0 : Int32) (S : ZS) (H : Heap) (locs : List Loc) (ls : Array Slot), X7_value_b16 x1 t0 S Q → va_P D vwCl (zWS k a S) H → va_S (zA a s.heap.size) s.heap H locs → lv_has ls 3 [(0, .ref (a 61)), (1, .int x1)] → zWi p l e (headSpec wsX7_value rm_X7_value).room s m ([.ref (a 61)] : List Value) below meth c D k a Q H locs (F0 m 16 ls [.int t0, .ref (a 61)]) := by
    intro x1 t0 S H locs ls hm hP hS hl
    unfold X7_value_b16 at hm
    have b55 : ∀ (x1 : Int32) (S : ZS) (H : Heap) (locs : List Loc) (ls : Array Slot), X7_value_b55 x1 S Q → va_P D vwCl (zWS k a S) H → va_S (zA a s.heap.size) s.heap H locs → lv_has ls 3 [(0, .ref (a 61)), (1, .int x1)] → zWi p l e (headSpec wsX7_value rm_X7_value).room s m ([.ref (a 61)] : List Value) below meth c D k a Q H locs (F0 m 55 ls []) := by
      intro x1 S H locs ls hm hP hS hl
      unfold X7_value_b55 at hm
      refine lv_iload_n hx hb dX7_value_55 rfl (lv_at hl 1 rfl) ?_
      exact z_reti hx hb hr hlocks hP hS hm dX7_value_56
    have L25 : ∀ (n : Nat) (x1 : Int32) (x2 : Int32) (S : ZS) (H : Heap) (locs : List Loc) (ls : Array Slot), zn (X7_value_L25 Q) n (x1, x2, S) → va_P D vwCl (zWS k a S) H → va_S (zA a s.heap.size) s.heap H locs → lv_has ls 3 [(0, .ref (a 61)), (1, .int x1), (2, .int x2)] → zWi p l e (headSpec wsX7_value rm_X7_value).room s m ([.ref (a 61)] : List Value) below meth c D k a Q H locs (F0 m 25 ls []) := by
      intro n
      induction n with
      | zero =>
        intro x1 x2 S H locs ls hm
        exact hm.elim
      | succ n ih25 =>
        intro x1 x2 S H locs ls hm hP hS hl
        have hm : X7_value_B25 x1 x2 S Q (zn (X7_value_L25 Q) n) := hm
        generalize zn (X7_value_L25 Q) n = k25 at hm ih25
        unfold X7_value_B25 at hm
        refine lv_iload_n hx hb dX7_value_25 rfl (lv_at hl 2 rfl) ?_
        refine lv_aload_n hx hb dX7_value_26 rfl (lv_at hl 0 rfl) ?_
        refine zg_7_columns hx hb hts i7 hown hK hP (hts _ (List.mem_of_getElem? (i := 2) rfl)) dX7_value_27 ?_
        refine lv_icmp_ge (tgt := 55) hx hb dX7_value_30 (by decide) (fun c_30 => ?_) (fun c_30 => ?_)
        · have hm := hm.1 c_30
          exact b55 x1 S _ _ _ hm hP hS (lv_sub hl [0, 1] rfl)
        · have hm := hm.2 c_30
          refine lv_iload_n hx hb dX7_value_33 rfl (lv_at hl 1 rfl) ?_
          refine lv_aload_n hx hb dX7_value_34 rfl (lv_at hl 0 rfl) ?_
          refine zg_7_costs hx hb hts i7 hown hK hP (hts _ (List.mem_of_getElem? (i := 3) rfl)) dX7_value_35 ?_
          refine lv_iload_n hx hb dX7_value_38 rfl (lv_at hl 2 rfl) ?_
          obtain ⟨h_39, hm⟩ := hm
          refine z_iald hx hb hK hP zI_64 h_39 dX7_value_39 ?_
          refine lv_aload_n hx hb dX7_value_40 rfl (lv_at hl 0 rfl) ?_
          refine zg_7_best hx hb hts i7 hown hK hP (hts _ (List.mem_of_getElem? (i := 4) rfl)) dX7_value_41 ?_
          refine lv_iload_n hx hb dX7_value_44 rfl (lv_at hl 2 rfl) ?_
          obtain ⟨h_45, hm⟩ := hm
          refine z_iald hx hb hK hP zI_68 h_45 dX7_value_45 ?_
          refine lv_imul hx hb dX7_value_46 ?_
          refine lv_iadd hx hb dX7_value_47 ?_
          refine lv_topi (fun x1_48 ex1_48 => ?_)
          have hm := hm x1_48 ex1_48
          refine lv_istore_n (lv' := [(1, .int x1_48), (0, .ref (a 61)), (2, .int x2)]) hx hb dX7_value_48 rfl hl (by decide) rfl (fun ls hl => ?_)
          obtain ⟨x2_49, ex2_49⟩ : ∃ y : Int32, y = x2 + (1 : Int32) := ⟨_, rfl⟩
          have hm := hm x2_49 ex2_49
          refine lv_iinc (v := x2_49) (lv' := [(2, .int x2_49), (1, .int x1_48), (0, .ref (a 61))]) hx hb dX7_value_49 hl (k := 2) rfl (by rw [ex2_49]; rfl) (by decide) rfl (fun ls hl => ?_)
          refine lv_goto (tgt := 25) hx hb dX7_value_52 (by decide) ?_
          exact ih25 x1_48 x2_49 S _ _ _ hm hP hS (lv_sub hl [2, 1, 0] rfl)
    refine lv_iconst (v := (0 : Int32)) hx hb dX7_value_16 (by decide) ?_
    refine z_cVi (As := [.int t0, .int (0 : Int32)]) (rest := []) hF hK hP hS zO_61 rfl rfl (c_X7_passes l D k a hj t0 (0 : Int32) S _ hm _) (cwV 2 hts gX7_value_X7_passes rfl rfl rfl (by decide +kernel) ⟨Nat.le_of_ble_eq_true rfl, Nat.le_of_ble_eq_true rfl⟩) rfl hl.1 rfl (Nat.le_of_ble_eq_true rfl) dX7_value_17 ⟨Nat.zero_le _, Nat.zero_le _⟩ (fun r_17 S_17 H locs hm hP hS => ?_)
    refine lv_if_eq (tgt := 55) hx hb dX7_value_20 (by decide) (fun c_20 => ?_) (fun c_20 => ?_)
    · have hm := hm.1 c_20
      exact b55 x1 S_17 _ _ _ hm hP hS (lv_sub hl [0, 1] rfl)
    · have hm := hm.2 c_20
      refine lv_iconst (v := (0 : Int32)) hx hb dX7_value_23 (by decide) ?_
      refine lv_istore_n (lv' := [(2, .int (0 : Int32)), (0, .ref (a 61)), (1, .int x1)]) hx hb dX7_value_24 rfl hl (by decide) rfl (fun ls hl => ?_)
      obtain ⟨n25, hm⟩ := hm
      exact L25 n25 x1 (0 : Int32) S_17 _ _ _ hm hP hS (lv_sub hl [1, 2, 0] rfl)
  unfold X7_value at hm
  refine lv_iconst (v := (0 : Int32)) hx hb dX7_value_0 (by decide) ?_
  refine lv_istore_n (lv' := [(1, .int (0 : Int32)), (0, .ref (a 61))]) hx hb dX7_value_1 rfl hl (by decide) rfl (fun ls hl => ?_)
  refine lv_aload_n hx hb dX7_value_2 rfl (lv_at hl 1 rfl) ?_
  refine lv_aload_n hx hb dX7_value_3 rfl (lv_at hl 1 rfl) ?_
  refine zg_7_solved hx hb hts i7 hown hK hP (hts _ (List.mem_of_getElem? (i := 1) rfl)) dX7_value_4 ?_
  refine lv_iconst (v := (1 : Int32)) hx hb dX7_value_7 (by decide) ?_
  refine lv_icmp_eq (tgt := 15) hx hb dX7_value_8 (by decide) (fun c_8 => ?_) (fun c_8 => ?_)
  · have hm := hm.1 c_8
    refine lv_iconst (v := (0 : Int32)) hx hb dX7_value_15 (by decide) ?_
    exact b16 (0 : Int32) (0 : Int32) S _ _ _ hm hP hS (lv_sub hl [1, 0] rfl)
  · have hm := hm.2 c_8
    refine lv_iconst (v := (1 : Int32)) hx hb dX7_value_11 (by decide) ?_
    refine lv_goto (tgt := 16) hx hb dX7_value_12 (by decide) ?_
    exact b16 (0 : Int32) (1 : Int32) S _ _ _ hm hP hS (lv_sub hl [1, 0] rfl)

abbrev rm_X7_sum : Room := { frames := 2, cells := 0, slots := 0, locals := 46 }
def X7_sum_b43 (t0 : Int32) (S : ZS) (Q : Int32 → ZS → Prop) : Prop :=
  Q t0 S
def X7_sum_b27 (x1 : Int32) (t0 : Int32) (t1 : Int32) (S : ZS) (Q : Int32 → ZS → Prop) : Prop :=
  X7_passes t1 t0 S (fun r_27 S_27 => (r_27 = 0 → X7_sum_b43 (0 : Int32) S_27 Q) ∧ (¬ r_27 = 0 → X7_sumOf x1 S_27 (fun r_35 S_35 => X7_sum_b43 (Int64.toInt32 r_35) S_35 Q)))
def X7_sum_b14 (x1 : Int32) (t0 : Int32) (S : ZS) (Q : Int32 → ZS → Prop) : Prop :=
  X7_isRow x1 S (fun r_16 S_16 => (r_16 = 0 → X7_sum_b27 x1 (1 : Int32) t0 S_16 Q) ∧ (¬ r_16 = 0 → X7_sum_b27 x1 (0 : Int32) t0 S_16 Q))
def X7_sum (y1 : Int32) (S : ZS) (Q : Int32 → ZS → Prop) : Prop :=
  ((S.1 61 9) = (1 : Int32) → X7_sum_b14 y1 (0 : Int32) S Q) ∧ (¬ (S.1 61 9) = (1 : Int32) → X7_sum_b14 y1 (1 : Int32) S Q)
set_option maxHeartbeats 4000000 in
set_option maxRecDepth 100000 in
theorem c_X7_sum (l : Launch) (D : va_G) (k : Nat → ClassId) (a : Nat → Nat) (hj : zDj a) (y1 : Int32) (S : ZS) (Q : Int32 → ZS → Prop) (hm : X7_sum y1 S Q) (sz : Nat) : Met l yX7_sum wsX7_sum rm_X7_sum (zPc D k a [.ref (a 61), .int y1] S sz) (va_Qi Q (zB D k a) (zA a sz)) 0 0 (zA a sz) := by
  refine Met.ofW (cc := cX7_sum) (maxL := 2) (ret := (some .int)) (by decide) rfl ?_
  intro p e s m args below meth c s₁ B hml hv
  obtain ⟨rfl, hsz, hP, hK⟩ := hv
  have hx := B.exec
  have hb := B.bytes
  have hr := B.returns
  have hts := atoms_spec (ws := wsX7_sum) B.pre
  have hown : s.vm.findClass RX7 = some m.cls := findClass_of_methodNamed B.named
  have hlocks := B.notSynchronized
  subst hsz
  have hS : va_S (zA a s.heap.size) s.heap s.heap [] := va_S.rf
  have hF : CallFix p m c cX7_sum 2 s _ wsX7_sum RX7 := ⟨hx, hb, hml, hown, hts⟩
  have i7 : ∀ w ∈ wsX70, w ∈ wsX7_sum := fun _ h => (List.mem_cons_of_mem _ (List.mem_append_right _ h))
  have hl := lv_entry ([.ref (a 61), .int y1]) (n := 2) (Nat.le_of_ble_eq_true rfl)
  rw [lg_entry_eq]
  generalize (lg_sl ([.ref (a 61), .int y1]) ++ List.replicate (2 - (lg_sl ([.ref (a 61), .int y1])).length) Slot.unset).toArray = ls at hl ⊢
  have hl : lv_has ls 2 [(0, .ref (a 61)), (1, .int y1)] := hl
  have b14 : ∀ (x1 : Int32) (t0 : Int32) (S : ZS) (H : Heap) (locs : List Loc) (ls : Array Slot), X7_sum_b14 x1 t0 S Q → va_P D vwCl (zWS k a S) H → va_S (zA a s.heap.size) s.heap H locs → lv_has ls 2 [(0, .ref (a 61)), (1, .int x1)] → zWi p l e (headSpec wsX7_sum rm_X7_sum).room s m ([.ref (a 61), .int y1] : List Value) below meth c D k a Q H locs (F0 m 14 ls [.int t0, .ref (a 61)]) := by
    intro x1 t0 S H locs ls hm hP hS hl
    unfold X7_sum_b14 at hm
    have b27 : ∀ (x1 : Int32) (t0 : Int32) (t1 : Int32) (S : ZS) (H : Heap) (locs : List Loc) (ls : Array Slot), X7_sum_b27 x1 t0 t1 S Q → va_P D vwCl (zWS k a S) H → va_S (zA a s.heap.size) s.heap H locs → lv_has ls 2 [(0, .ref (a 61)), (1, .int x1)] → zWi p l e (headSpec wsX7_sum rm_X7_sum).room s m ([.ref (a 61), .int y1] : List Value) below meth c D k a Q H locs (F0 m 27 ls [.int t0, .int t1, .ref (a 61)]) := by
      intro x1 t0 t1 S H locs ls hm hP hS hl
      unfold X7_sum_b27 at hm
      have b43 : ∀ (t0 : Int32) (S : ZS) (H : Heap) (locs : List Loc) (ls : Array Slot), X7_sum_b43 t0 S Q → va_P D vwCl (zWS k a S) H → va_S (zA a s.heap.size) s.heap H locs → lv_has ls 2 [(0, .ref (a 61))] → zWi p l e (headSpec wsX7_sum rm_X7_sum).room s m ([.ref (a 61), .int y1] : List Value) below meth c D k a Q H locs (F0 m 43 ls [.int t0]) := by
        intro t0 S H locs ls hm hP hS hl
        unfold X7_sum_b43 at hm
        exact z_reti hx hb hr hlocks hP hS hm dX7_sum_43
      refine z_cVi (As := [.int t1, .int t0]) (rest := []) hF hK hP hS zO_61 rfl rfl (c_X7_passes l D k a hj t1 t0 S _ hm _) (cwV 2 hts gX7_sum_X7_passes rfl rfl rfl (by decide +kernel) ⟨Nat.le_of_ble_eq_true rfl, Nat.le_of_ble_eq_true rfl⟩) rfl hl.1 rfl (Nat.le_of_ble_eq_true rfl) dX7_sum_27 ⟨Nat.zero_le _, Nat.zero_le _⟩ (fun r_27 S_27 H locs hm hP hS => ?_)
      refine lv_if_eq (tgt := 42) hx hb dX7_sum_30 (by decide) (fun c_30 => ?_) (fun c_30 => ?_)
      · have hm := hm.1 c_30
        refine lv_iconst (v := (0 : Int32)) hx hb dX7_sum_42 (by decide) ?_
        exact b43 (0 : Int32) S_27 _ _ _ hm hP hS (lv_sub hl [0] rfl)
      · have hm := hm.2 c_30
        refine lv_aload_n hx hb dX7_sum_33 rfl (lv_at hl 0 rfl) ?_
        refine lv_iload_n hx hb dX7_sum_34 rfl (lv_at hl 1 rfl) ?_
        refine z_cVl (As := [.int x1]) (rest := []) hF hK hP hS zO_61 rfl rfl (c_X7_sumOf l D k a hj x1 S_27 _ hm _) (cwV 1 hts gX7_sum_X7_sumOf rfl rfl rfl (by decide +kernel) ⟨Nat.le_of_ble_eq_true rfl, Nat.le_of_ble_eq_true rfl⟩) rfl hl.1 rfl (Nat.le_of_ble_eq_true rfl) dX7_sum_35 ⟨Nat.zero_le _, Nat.zero_le _⟩ (fun r_35 S_35 H locs hm hP hS => ?_)
        refine lv_l2i hx hb dX7_sum_38 rfl ?_
        refine lv_goto (tgt := 43) hx hb dX7_sum_39 (by decide) ?_
        exact b43 (Int64.toInt32 r_35) S_35 _ _ _ hm hP hS (lv_sub hl [0] rfl)
    refine lv_aload_n hx hb dX7_sum_14 rfl (lv_at hl 0 rfl) ?_
    refine lv_iload_n hx hb dX7_sum_15 rfl (lv_at hl 1 rfl) ?_
    refine z_cVi (As := [.int x1]) (rest := [.int t0, .ref (a 61)]) hF hK hP hS zO_61 rfl rfl (c_X7_isRow l D k a hj x1 S _ hm _) (cwV 1 hts gX7_sum_X7_isRow rfl rfl rfl (by decide +kernel) ⟨Nat.le_of_ble_eq_true rfl, Nat.le_of_ble_eq_true rfl⟩) rfl hl.1 rfl (Nat.le_of_ble_eq_true rfl) dX7_sum_16 ⟨Nat.zero_le _, Nat.zero_le _⟩ (fun r_16 S_16 H locs hm hP hS => ?_)
    refine lv_if_ne (tgt := 26) hx hb dX7_sum_19 (by decide) (fun c_19 => ?_) (fun c_19 => ?_)
    · have hm := hm.2 c_19
      refine lv_iconst (v := (0 : Int32)) hx hb dX7_sum_26 (by decide) ?_
      exact b27 x1 (0 : Int32) t0 S_16 _ _ _ hm hP hS (lv_sub hl [0, 1] rfl)
    · have hm := hm.1 c_19
      refine lv_iconst (v := (1 : Int32)) hx hb dX7_sum_22 (by decide) ?_
      refine lv_goto (tgt := 27) hx hb dX7_sum_23 (by decide) ?_
      exact b27 x1 (1 : Int32) t0 S_16 _ _ _ hm hP hS (lv_sub hl [0, 1] rfl)
  unfold X7_sum at hm
  refine lv_aload_n hx hb dX7_sum_0 rfl (lv_at hl 0 rfl) ?_
  refine lv_aload_n hx hb dX7_sum_1 rfl (lv_at hl 0 rfl) ?_
  refine zg_7_solved hx hb hts i7 hown hK hP (hts _ (List.mem_of_getElem? (i := 1) rfl)) dX7_sum_2 ?_
  refine lv_iconst (v := (1 : Int32)) hx hb dX7_sum_5 (by decide) ?_
  refine lv_icmp_eq (tgt := 13) hx hb dX7_sum_6 (by decide) (fun c_6 => ?_) (fun c_6 => ?_)
  · have hm := hm.1 c_6
    refine lv_iconst (v := (0 : Int32)) hx hb dX7_sum_13 (by decide) ?_
    exact b14 y1 (0 : Int32) S _ _ _ hm hP hS (lv_sub hl [0, 1] rfl)
  · have hm := hm.2 c_6
    refine lv_iconst (v := (1 : Int32)) hx hb dX7_sum_9 (by decide) ?_
    refine lv_goto (tgt := 14) hx hb dX7_sum_10 (by decide) ?_
    exact b14 y1 (1 : Int32) S _ _ _ hm hP hS (lv_sub hl [0, 1] rfl)

abbrev rm_X7_price : Room := { frames := 2, cells := 0, slots := 0, locals := 46 }
def X7_price_b51 (t0 : Int32) (S : ZS) (Q : Int32 → ZS → Prop) : Prop :=
  Q t0 S
def X7_price_b34 (x1 : Int32) (t0 : Int32) (t1 : Int32) (S : ZS) (Q : Int32 → ZS → Prop) : Prop :=
  X7_passes t1 t0 S (fun r_34 S_34 => (r_34 = 0 → X7_price_b51 (0 : Int32) S_34 Q) ∧ (¬ r_34 = 0 → vp_in x1 8 ∧ X7_price_b51 (Int64.toInt32 (S_34.2 69 (x1).toNatClampNeg)) S_34 Q))
def X7_price_b21 (x1 : Int32) (t0 : Int32) (S : ZS) (Q : Int32 → ZS → Prop) : Prop :=
  X7_isRow x1 S (fun r_23 S_23 => (r_23 = 0 → X7_price_b34 x1 (1 : Int32) t0 S_23 Q) ∧ (¬ r_23 = 0 → X7_price_b34 x1 (0 : Int32) t0 S_23 Q))
def X7_price_b16 (x1 : Int32) (S : ZS) (Q : Int32 → ZS → Prop) : Prop :=
  X7_price_b21 x1 (1 : Int32) S Q
def X7_price (y1 : Int32) (S : ZS) (Q : Int32 → ZS → Prop) : Prop :=
  ((S.1 61 9) = (1 : Int32) → ((S.1 61 10) = 0 → X7_price_b16 y1 S Q) ∧ (¬ (S.1 61 10) = 0 → X7_price_b21 y1 (0 : Int32) S Q)) ∧ (¬ (S.1 61 9) = (1 : Int32) → X7_price_b16 y1 S Q)
set_option maxHeartbeats 4000000 in
set_option maxRecDepth 100000 in
theorem c_X7_price (l : Launch) (D : va_G) (k : Nat → ClassId) (a : Nat → Nat) (hj : zDj a) (y1 : Int32) (S : ZS) (Q : Int32 → ZS → Prop) (hm : X7_price y1 S Q) (sz : Nat) : Met l yX7_price wsX7_price rm_X7_price (zPc D k a [.ref (a 61), .int y1] S sz) (va_Qi Q (zB D k a) (zA a sz)) 0 0 (zA a sz) := by
  refine Met.ofW (cc := cX7_price) (maxL := 2) (ret := (some .int)) (by decide) rfl ?_
  intro p e s m args below meth c s₁ B hml hv
  obtain ⟨rfl, hsz, hP, hK⟩ := hv
  have hx := B.exec
  have hb := B.bytes
  have hr := B.returns
  have hts := atoms_spec (ws := wsX7_price) B.pre
  have hown : s.vm.findClass RX7 = some m.cls := findClass_of_methodNamed B.named
  have hlocks := B.notSynchronized
  subst hsz
  have hS : va_S (zA a s.heap.size) s.heap s.heap [] := va_S.rf
  have hF : CallFix p m c cX7_price 2 s _ wsX7_price RX7 := ⟨hx, hb, hml, hown, hts⟩
  have i7 : ∀ w ∈ wsX70, w ∈ wsX7_price := fun _ h => (List.mem_cons_of_mem _ (List.mem_append_right _ h))
  have hl := lv_entry ([.ref (a 61), .int y1]) (n := 2) (Nat.le_of_ble_eq_true rfl)
  rw [lg_entry_eq]
  generalize (lg_sl ([.ref (a 61), .int y1]) ++ List.replicate (2 - (lg_sl ([.ref (a 61), .int y1])).length) Slot.unset).toArray = ls at hl ⊢
  have hl : lv_has ls 2 [(0, .ref (a 61)), (1, .int y1)] := hl
  have b21 : ∀ (x1 : Int32) (t0 : Int32) (S : ZS) (H : Heap) (locs : List Loc) (ls : Array Slot), X7_price_b21 x1 t0 S Q → va_P D vwCl (zWS k a S) H → va_S (zA a s.heap.size) s.heap H locs → lv_has ls 2 [(0, .ref (a 61)), (1, .int x1)] → zWi p l e (headSpec wsX7_price rm_X7_price).room s m ([.ref (a 61), .int y1] : List Value) below meth c D k a Q H locs (F0 m 21 ls [.int t0, .ref (a 61)]) := by
    intro x1 t0 S H locs ls hm hP hS hl
    unfold X7_price_b21 at hm
    have b34 : ∀ (x1 : Int32) (t0 : Int32) (t1 : Int32) (S : ZS) (H : Heap) (locs : List Loc) (ls : Array Slot), X7_price_b34 x1 t0 t1 S Q → va_P D vwCl (zWS k a S) H → va_S (zA a s.heap.size) s.heap H locs → lv_has ls 2 [(0, .ref (a 61)), (1, .int x1)] → zWi p l e (headSpec wsX7_price rm_X7_price).room s m ([.ref (a 61), .int y1] : List Value) below meth c D k a Q H locs (F0 m 34 ls [.int t0, .int t1, .ref (a 61)]) := by
      intro x1 t0 t1 S H locs ls hm hP hS hl
      unfold X7_price_b34 at hm
      have b51 : ∀ (t0 : Int32) (S : ZS) (H : Heap) (locs : List Loc) (ls : Array Slot), X7_price_b51 t0 S Q → va_P D vwCl (zWS k a S) H → va_S (zA a s.heap.size) s.heap H locs → lv_has ls 2 [(0, .ref (a 61))] → zWi p l e (headSpec wsX7_price rm_X7_price).room s m ([.ref (a 61), .int y1] : List Value) below meth c D k a Q H locs (F0 m 51 ls [.int t0]) := by
        intro t0 S H locs ls hm hP hS hl
        unfold X7_price_b51 at hm
        exact z_reti hx hb hr hlocks hP hS hm dX7_price_51
      refine z_cVi (As := [.int t1, .int t0]) (rest := []) hF hK hP hS zO_61 rfl rfl (c_X7_passes l D k a hj t1 t0 S _ hm _) (cwV 2 hts gX7_price_X7_passes rfl rfl rfl (by decide +kernel) ⟨Nat.le_of_ble_eq_true rfl, Nat.le_of_ble_eq_true rfl⟩) rfl hl.1 rfl (Nat.le_of_ble_eq_true rfl) dX7_price_34 ⟨Nat.zero_le _, Nat.zero_le _⟩ (fun r_34 S_34 H locs hm hP hS => ?_)
      refine lv_if_eq (tgt := 50) hx hb dX7_price_37 (by decide) (fun c_37 => ?_) (fun c_37 => ?_)
      · have hm := hm.1 c_37
        refine lv_iconst (v := (0 : Int32)) hx hb dX7_price_50 (by decide) ?_
        exact b51 (0 : Int32) S_34 _ _ _ hm hP hS (lv_sub hl [0] rfl)
      · have hm := hm.2 c_37
        refine lv_aload_n hx hb dX7_price_40 rfl (lv_at hl 0 rfl) ?_
        refine zg_7_prices hx hb hts i7 hown hK hP (hts _ (List.mem_of_getElem? (i := 3) rfl)) dX7_price_41 ?_
        refine lv_iload_n hx hb dX7_price_44 rfl (lv_at hl 1 rfl) ?_
        obtain ⟨h_45, hm⟩ := hm
        refine z_lald hx hb hK hP zJ_69 h_45 dX7_price_45 ?_
        refine lv_l2i hx hb dX7_price_46 rfl ?_
        refine lv_goto (tgt := 51) hx hb dX7_price_47 (by decide) ?_
        exact b51 (Int64.toInt32 (S_34.2 69 (x1).toNatClampNeg)) S_34 _ _ _ hm hP hS (lv_sub hl [0] rfl)
    refine lv_aload_n hx hb dX7_price_21 rfl (lv_at hl 0 rfl) ?_
    refine lv_iload_n hx hb dX7_price_22 rfl (lv_at hl 1 rfl) ?_
    refine z_cVi (As := [.int x1]) (rest := [.int t0, .ref (a 61)]) hF hK hP hS zO_61 rfl rfl (c_X7_isRow l D k a hj x1 S _ hm _) (cwV 1 hts gX7_price_X7_isRow rfl rfl rfl (by decide +kernel) ⟨Nat.le_of_ble_eq_true rfl, Nat.le_of_ble_eq_true rfl⟩) rfl hl.1 rfl (Nat.le_of_ble_eq_true rfl) dX7_price_23 ⟨Nat.zero_le _, Nat.zero_le _⟩ (fun r_23 S_23 H locs hm hP hS => ?_)
    refine lv_if_ne (tgt := 33) hx hb dX7_price_26 (by decide) (fun c_26 => ?_) (fun c_26 => ?_)
    · have hm := hm.2 c_26
      refine lv_iconst (v := (0 : Int32)) hx hb dX7_price_33 (by decide) ?_
      exact b34 x1 (0 : Int32) t0 S_23 _ _ _ hm hP hS (lv_sub hl [0, 1] rfl)
    · have hm := hm.1 c_26
      refine lv_iconst (v := (1 : Int32)) hx hb dX7_price_29 (by decide) ?_
      refine lv_goto (tgt := 34) hx hb dX7_price_30 (by decide) ?_
      exact b34 x1 (1 : Int32) t0 S_23 _ _ _ hm hP hS (lv_sub hl [0, 1] rfl)
  have b16 : ∀ (x1 : Int32) (S : ZS) (H : Heap) (locs : List Loc) (ls : Array Slot), X7_price_b16 x1 S Q → va_P D vwCl (zWS k a S) H → va_S (zA a s.heap.size) s.heap H locs → lv_has ls 2 [(0, .ref (a 61)), (1, .int x1)] → zWi p l e (headSpec wsX7_price rm_X7_price).room s m ([.ref (a 61), .int y1] : List Value) below meth c D k a Q H locs (F0 m 16 ls [.ref (a 61)]) := by
    intro x1 S H locs ls hm hP hS hl
    unfold X7_price_b16 at hm
    refine lv_iconst (v := (1 : Int32)) hx hb dX7_price_16 (by decide) ?_
    refine lv_goto (tgt := 21) hx hb dX7_price_17 (by decide) ?_
    exact b21 x1 (1 : Int32) S _ _ _ hm hP hS (lv_sub hl [0, 1] rfl)
  unfold X7_price at hm
  refine lv_aload_n hx hb dX7_price_0 rfl (lv_at hl 0 rfl) ?_
  refine lv_aload_n hx hb dX7_price_1 rfl (lv_at hl 0 rfl) ?_
  refine zg_7_solved hx hb hts i7 hown hK hP (hts _ (List.mem_of_getElem? (i := 1) rfl)) dX7_price_2 ?_
  refine lv_iconst (v := (1 : Int32)) hx hb dX7_price_5 (by decide) ?_
  refine lv_icmp_ne (tgt := 16) hx hb dX7_price_6 (by decide) (fun c_6 => ?_) (fun c_6 => ?_)
  · have hm := hm.2 c_6
    exact b16 y1 S _ _ _ hm hP hS (lv_sub hl [0, 1] rfl)
  · have hm := hm.1 c_6
    refine lv_aload_n hx hb dX7_price_9 rfl (lv_at hl 0 rfl) ?_
    refine zg_7_byFlow hx hb hts i7 hown hK hP (hts _ (List.mem_of_getElem? (i := 2) rfl)) dX7_price_10 ?_
    refine lv_if_ne (tgt := 20) hx hb dX7_price_13 (by decide) (fun c_13 => ?_) (fun c_13 => ?_)
    · have hm := hm.2 c_13
      refine lv_iconst (v := (0 : Int32)) hx hb dX7_price_20 (by decide) ?_
      exact b21 y1 (0 : Int32) S _ _ _ hm hP hS (lv_sub hl [0, 1] rfl)
    · have hm := hm.1 c_13
      exact b16 y1 S _ _ _ hm hP hS (lv_sub hl [0, 1] rfl)

abbrev rm_X7_reduced : Room := { frames := 2, cells := 0, slots := 0, locals := 46 }
def X7_reduced_b87 (x2 : Int64) (S : ZS) (Q : Int32 → ZS → Prop) : Prop :=
  Q (Int64.toInt32 x2) S
def X7_reduced_B53 (x1 : Int32) (x2 : Int64) (x4 : Int32) (S : ZS) (Q : Int32 → ZS → Prop) (k53 : Int64 × Int32 × ZS → Prop) : Prop :=
  ((S.1 61 2) ≤ x4 → X7_reduced_b87 x2 S Q) ∧ (¬ (S.1 61 2) ≤ x4 → X7_coef x4 x1 S (fun r_67 S_67 => vp_in x4 8 ∧ ∀ x2_80 : Int64, x2_80 = (x2 - ((Int32.toInt64 r_67) * (S_67.2 69 (x4).toNatClampNeg))) → ∀ x4_81 : Int32, x4_81 = x4 + (1 : Int32) → k53 (x2_80, x4_81, S_67)))
def X7_reduced_L53 (x1 : Int32) (Q : Int32 → ZS → Prop) : (Int64 × Int32 × ZS) → ((Int64 × Int32 × ZS) → Prop) → Prop := fun st k53 => X7_reduced_B53 x1 st.1 st.2.1 st.2.2 Q k53
def X7_reduced_b34 (x1 : Int32) (t0 : Int32) (t1 : Int32) (S : ZS) (Q : Int32 → ZS → Prop) : Prop :=
  X7_passes t1 t0 S (fun r_34 S_34 => (r_34 = 0 → Q (0 : Int32) S_34) ∧ (¬ r_34 = 0 → vp_in x1 10 ∧ ∀ x2_49 : Int64, x2_49 = (Int32.toInt64 (S_34.1 64 (x1).toNatClampNeg)) → zl (X7_reduced_L53 x1 Q) (x2_49, (0 : Int32), S_34)))
def X7_reduced_b21 (x1 : Int32) (t0 : Int32) (S : ZS) (Q : Int32 → ZS → Prop) : Prop :=
  X7_isColumn x1 S (fun r_23 S_23 => (r_23 = 0 → X7_reduced_b34 x1 (1 : Int32) t0 S_23 Q) ∧ (¬ r_23 = 0 → X7_reduced_b34 x1 (0 : Int32) t0 S_23 Q))
def X7_reduced_b16 (x1 : Int32) (S : ZS) (Q : Int32 → ZS → Prop) : Prop :=
  X7_reduced_b21 x1 (1 : Int32) S Q
def X7_reduced (y1 : Int32) (S : ZS) (Q : Int32 → ZS → Prop) : Prop :=
  ((S.1 61 9) = (1 : Int32) → ((S.1 61 10) = 0 → X7_reduced_b16 y1 S Q) ∧ (¬ (S.1 61 10) = 0 → X7_reduced_b21 y1 (0 : Int32) S Q)) ∧ (¬ (S.1 61 9) = (1 : Int32) → X7_reduced_b16 y1 S Q)
set_option maxHeartbeats 4000000 in
set_option maxRecDepth 100000 in
theorem c_X7_reduced (l : Launch) (D : va_G) (k : Nat → ClassId) (a : Nat → Nat) (hj : zDj a) (y1 : Int32) (S : ZS) (Q : Int32 → ZS → Prop) (hm : X7_reduced y1 S Q) (sz : Nat) : Met l yX7_reduced wsX7_reduced rm_X7_reduced (zPc D k a [.ref (a 61), .int y1] S sz) (va_Qi Q (zB D k a) (zA a sz)) 0 0 (zA a sz) := by
  refine Met.ofW (cc := cX7_reduced) (maxL := 5) (ret := (some .int)) (by decide) rfl ?_
  intro p e s m args below meth c s₁ B hml hv
  obtain ⟨rfl, hsz, hP, hK⟩ := hv
  have hx := B.exec
  have hb := B.bytes
  have hr := B.returns
  have hts := atoms_spec (ws := wsX7_reduced) B.pre
  have hown : s.vm.findClass RX7 = some m.cls := findClass_of_methodNamed B.named
  have hlocks := B.notSynchronized
  subst hsz
  have hS : va_S (zA a s.heap.size) s.heap s.heap [] := va_S.rf
  have hF : CallFix p m c cX7_reduced 5 s _ wsX7_reduced RX7 := ⟨hx, hb, hml, hown, hts⟩
  have i7 : ∀ w ∈ wsX70, w ∈ wsX7_reduced := fun _ h => (List.mem_cons_of_mem _ (List.mem_append_right _ h))
  have hl := lv_entry ([.ref (a 61), .int y1]) (n := 5) (Nat.le_of_ble_eq_true rfl)
  rw [lg_entry_eq]
  generalize (lg_sl ([.ref (a 61), .int y1]) ++ List.replicate (5 - (lg_sl ([.ref (a 61), .int y1])).length) Slot.unset).toArray = ls at hl ⊢
  have hl : lv_has ls 5 [(0, .ref (a 61)), (1, .int y1)] := hl
  have b21 : ∀ (x1 : Int32) (t0 : Int32) (S : ZS) (H : Heap) (locs : List Loc) (ls : Array Slot), X7_reduced_b21 x1 t0 S Q → va_P D vwCl (zWS k a S) H → va_S (zA a s.heap.size) s.heap H locs → lv_has ls 5 [(0, .ref (a 61)), (1, .int x1)] → zWi p l e (headSpec wsX7_reduced rm_X7_reduced).room s m ([.ref (a 61), .int y1] : List Value) below meth c D k a Q H locs (F0 m 21 ls [.int t0, .ref (a 61)]) := by
    intro x1 t0 S H locs ls hm hP hS hl
    unfold X7_reduced_b21 at hm
    have b34 : ∀ (x1 : Int32) (t0 : Int32) (t1 : Int32) (S : ZS) (H : Heap) (locs : List Loc) (ls : Array Slot), X7_reduced_b34 x1 t0 t1 S Q → va_P D vwCl (zWS k a S) H → va_S (zA a s.heap.size) s.heap H locs → lv_has ls 5 [(0, .ref (a 61)), (1, .int x1)] → zWi p l e (headSpec wsX7_reduced rm_X7_reduced).room s m ([.ref (a 61), .int y1] : List Value) below meth c D k a Q H locs (F0 m 34 ls [.int t0, .int t1, .ref (a 61)]) := by
      intro x1 t0 t1 S H locs ls hm hP hS hl
      unfold X7_reduced_b34 at hm
      have b87 : ∀ (x2 : Int64) (S : ZS) (H : Heap) (locs : List Loc) (ls : Array Slot), X7_reduced_b87 x2 S Q → va_P D vwCl (zWS k a S) H → va_S (zA a s.heap.size) s.heap H locs → lv_has ls 5 [(0, .ref (a 61)), (2, .long x2)] → zWi p l e (headSpec wsX7_reduced rm_X7_reduced).room s m ([.ref (a 61), .int y1] : List Value) below meth c D k a Q H locs (F0 m 87 ls []) := by
        intro x2 S H locs ls hm hP hS hl
        unfold X7_reduced_b87 at hm
        refine lv_lload_n hx hb dX7_reduced_87 rfl (lv_at hl 1 rfl) ?_
        refine lv_l2i hx hb dX7_reduced_88 rfl ?_
        exact z_reti hx hb hr hlocks hP hS hm dX7_reduced_89
      have L53 : ∀ (x1 : Int32) (n : Nat) (x2 : Int64) (x4 : Int32) (S : ZS) (H : Heap) (locs : List Loc) (ls : Array Slot), zn (X7_reduced_L53 x1 Q) n (x2, x4, S) → va_P D vwCl (zWS k a S) H → va_S (zA a s.heap.size) s.heap H locs → lv_has ls 5 [(0, .ref (a 61)), (1, .int x1), (2, .long x2), (4, .int x4)] → zWi p l e (headSpec wsX7_reduced rm_X7_reduced).room s m ([.ref (a 61), .int y1] : List Value) below meth c D k a Q H locs (F0 m 53 ls []) := by
        intro x1 n
        induction n with
        | zero =>
          intro x2 x4 S H locs ls hm
          exact hm.elim
        | succ n ih53 =>
          intro x2 x4 S H locs ls hm hP hS hl
          have hm : X7_reduced_B53 x1 x2 x4 S Q (zn (X7_reduced_L53 x1 Q) n) := hm
          generalize zn (X7_reduced_L53 x1 Q) n = k53 at hm ih53
          unfold X7_reduced_B53 at hm
          refine lv_iload hx hb dX7_reduced_53 (lv_at hl 3 rfl) ?_
          refine lv_aload_n hx hb dX7_reduced_55 rfl (lv_at hl 0 rfl) ?_
          refine zg_7_rows hx hb hts i7 hown hK hP (hts _ (List.mem_of_getElem? (i := 4) rfl)) dX7_reduced_56 ?_
          refine lv_icmp_ge (tgt := 87) hx hb dX7_reduced_59 (by decide) (fun c_59 => ?_) (fun c_59 => ?_)
          · have hm := hm.1 c_59
            exact b87 x2 S _ _ _ hm hP hS (lv_sub hl [0, 2] rfl)
          · have hm := hm.2 c_59
            refine lv_lload_n hx hb dX7_reduced_62 rfl (lv_at hl 2 rfl) ?_
            refine lv_aload_n hx hb dX7_reduced_63 rfl (lv_at hl 0 rfl) ?_
            refine lv_iload hx hb dX7_reduced_64 (lv_at hl 3 rfl) ?_
            refine lv_iload_n hx hb dX7_reduced_66 rfl (lv_at hl 1 rfl) ?_
            refine z_cVi (As := [.int x4, .int x1]) (rest := [.long x2]) hF hK hP hS zO_61 rfl rfl (c_X7_coef l D k a hj x4 x1 S _ hm _) (cwV 2 hts gX7_reduced_X7_coef rfl rfl rfl (by decide +kernel) ⟨Nat.le_of_ble_eq_true rfl, Nat.le_of_ble_eq_true rfl⟩) rfl hl.1 rfl (Nat.le_of_ble_eq_true rfl) dX7_reduced_67 ⟨Nat.zero_le _, Nat.zero_le _⟩ (fun r_67 S_67 H locs hm hP hS => ?_)
            refine lv_i2l hx hb dX7_reduced_70 rfl ?_
            refine lv_aload_n hx hb dX7_reduced_71 rfl (lv_at hl 0 rfl) ?_
            refine zg_7_prices hx hb hts i7 hown hK hP (hts _ (List.mem_of_getElem? (i := 5) rfl)) dX7_reduced_72 ?_
            refine lv_iload hx hb dX7_reduced_75 (lv_at hl 3 rfl) ?_
            obtain ⟨h_77, hm⟩ := hm
            refine z_lald hx hb hK hP zJ_69 h_77 dX7_reduced_77 ?_
            refine lv_lmul hx hb dX7_reduced_78 ?_
            refine lv_lsub hx hb dX7_reduced_79 ?_
            refine lv_topl (fun x2_80 ex2_80 => ?_)
            have hm := hm x2_80 ex2_80
            refine lv_lstore_n (lv' := [(2, .long x2_80), (0, .ref (a 61)), (1, .int x1), (4, .int x4)]) hx hb dX7_reduced_80 rfl hl (by decide) rfl (fun ls hl => ?_)
            obtain ⟨x4_81, ex4_81⟩ : ∃ y : Int32, y = x4 + (1 : Int32) := ⟨_, rfl⟩
            have hm := hm x4_81 ex4_81
            refine lv_iinc (v := x4_81) (lv' := [(4, .int x4_81), (2, .long x2_80), (0, .ref (a 61)), (1, .int x1)]) hx hb dX7_reduced_81 hl (k := 3) rfl (by rw [ex4_81]; rfl) (by decide) rfl (fun ls hl => ?_)
            refine lv_goto (tgt := 53) hx hb dX7_reduced_84 (by decide) ?_
            exact ih53 x2_80 x4_81 S_67 _ _ _ hm hP hS (lv_sub hl [2, 3, 1, 0] rfl)
      refine z_cVi (As := [.int t1, .int t0]) (rest := []) hF hK hP hS zO_61 rfl rfl (c_X7_passes l D k a hj t1 t0 S _ hm _) (cwV 2 hts gX7_reduced_X7_passes rfl rfl rfl (by decide +kernel) ⟨Nat.le_of_ble_eq_true rfl, Nat.le_of_ble_eq_true rfl⟩) rfl hl.1 rfl (Nat.le_of_ble_eq_true rfl) dX7_reduced_34 ⟨Nat.zero_le _, Nat.zero_le _⟩ (fun r_34 S_34 H locs hm hP hS => ?_)
      refine lv_if_ne (tgt := 42) hx hb dX7_reduced_37 (by decide) (fun c_37 => ?_) (fun c_37 => ?_)
      · have hm := hm.2 c_37
        refine lv_aload_n hx hb dX7_reduced_42 rfl (lv_at hl 0 rfl) ?_
        refine zg_7_costs hx hb hts i7 hown hK hP (hts _ (List.mem_of_getElem? (i := 3) rfl)) dX7_reduced_43 ?_
        refine lv_iload_n hx hb dX7_reduced_46 rfl (lv_at hl 1 rfl) ?_
        obtain ⟨h_47, hm⟩ := hm
        refine z_iald hx hb hK hP zI_64 h_47 dX7_reduced_47 ?_
        refine lv_i2l hx hb dX7_reduced_48 rfl ?_
        refine lv_topl (fun x2_49 ex2_49 => ?_)
        have hm := hm x2_49 ex2_49
        refine lv_lstore_n (lv' := [(2, .long x2_49), (0, .ref (a 61)), (1, .int x1)]) hx hb dX7_reduced_49 rfl hl (by decide) rfl (fun ls hl => ?_)
        refine lv_iconst (v := (0 : Int32)) hx hb dX7_reduced_50 (by decide) ?_
        refine lv_istore (lv' := [(4, .int (0 : Int32)), (2, .long x2_49), (0, .ref (a 61)), (1, .int x1)]) hx hb dX7_reduced_51 hl (by decide) rfl (fun ls hl => ?_)
        obtain ⟨n53, hm⟩ := hm
        exact L53 x1 n53 x2_49 (0 : Int32) S_34 _ _ _ hm hP hS (lv_sub hl [2, 3, 1, 0] rfl)
      · have hm := hm.1 c_37
        refine lv_iconst (v := (0 : Int32)) hx hb dX7_reduced_40 (by decide) ?_
        exact z_reti hx hb hr hlocks hP hS hm dX7_reduced_41
    refine lv_aload_n hx hb dX7_reduced_21 rfl (lv_at hl 0 rfl) ?_
    refine lv_iload_n hx hb dX7_reduced_22 rfl (lv_at hl 1 rfl) ?_
    refine z_cVi (As := [.int x1]) (rest := [.int t0, .ref (a 61)]) hF hK hP hS zO_61 rfl rfl (c_X7_isColumn l D k a hj x1 S _ hm _) (cwV 1 hts gX7_reduced_X7_isColumn rfl rfl rfl (by decide +kernel) ⟨Nat.le_of_ble_eq_true rfl, Nat.le_of_ble_eq_true rfl⟩) rfl hl.1 rfl (Nat.le_of_ble_eq_true rfl) dX7_reduced_23 ⟨Nat.zero_le _, Nat.zero_le _⟩ (fun r_23 S_23 H locs hm hP hS => ?_)
    refine lv_if_ne (tgt := 33) hx hb dX7_reduced_26 (by decide) (fun c_26 => ?_) (fun c_26 => ?_)
    · have hm := hm.2 c_26
      refine lv_iconst (v := (0 : Int32)) hx hb dX7_reduced_33 (by decide) ?_
      exact b34 x1 (0 : Int32) t0 S_23 _ _ _ hm hP hS (lv_sub hl [0, 1] rfl)
    · have hm := hm.1 c_26
      refine lv_iconst (v := (1 : Int32)) hx hb dX7_reduced_29 (by decide) ?_
      refine lv_goto (tgt := 34) hx hb dX7_reduced_30 (by decide) ?_
      exact b34 x1 (1 : Int32) t0 S_23 _ _ _ hm hP hS (lv_sub hl [0, 1] rfl)
  have b16 : ∀ (x1 : Int32) (S : ZS) (H : Heap) (locs : List Loc) (ls : Array Slot), X7_reduced_b16 x1 S Q → va_P D vwCl (zWS k a S) H → va_S (zA a s.heap.size) s.heap H locs → lv_has ls 5 [(0, .ref (a 61)), (1, .int x1)] → zWi p l e (headSpec wsX7_reduced rm_X7_reduced).room s m ([.ref (a 61), .int y1] : List Value) below meth c D k a Q H locs (F0 m 16 ls [.ref (a 61)]) := by
    intro x1 S H locs ls hm hP hS hl
    unfold X7_reduced_b16 at hm
    refine lv_iconst (v := (1 : Int32)) hx hb dX7_reduced_16 (by decide) ?_
    refine lv_goto (tgt := 21) hx hb dX7_reduced_17 (by decide) ?_
    exact b21 x1 (1 : Int32) S _ _ _ hm hP hS (lv_sub hl [0, 1] rfl)
  unfold X7_reduced at hm
  refine lv_aload_n hx hb dX7_reduced_0 rfl (lv_at hl 0 rfl) ?_
  refine lv_aload_n hx hb dX7_reduced_1 rfl (lv_at hl 0 rfl) ?_
  refine zg_7_solved hx hb hts i7 hown hK hP (hts _ (List.mem_of_getElem? (i := 1) rfl)) dX7_reduced_2 ?_
  refine lv_iconst (v := (1 : Int32)) hx hb dX7_reduced_5 (by decide) ?_
  refine lv_icmp_ne (tgt := 16) hx hb dX7_reduced_6 (by decide) (fun c_6 => ?_) (fun c_6 => ?_)
  · have hm := hm.2 c_6
    exact b16 y1 S _ _ _ hm hP hS (lv_sub hl [0, 1] rfl)
  · have hm := hm.1 c_6
    refine lv_aload_n hx hb dX7_reduced_9 rfl (lv_at hl 0 rfl) ?_
    refine zg_7_byFlow hx hb hts i7 hown hK hP (hts _ (List.mem_of_getElem? (i := 2) rfl)) dX7_reduced_10 ?_
    refine lv_if_ne (tgt := 20) hx hb dX7_reduced_13 (by decide) (fun c_13 => ?_) (fun c_13 => ?_)
    · have hm := hm.2 c_13
      refine lv_iconst (v := (0 : Int32)) hx hb dX7_reduced_20 (by decide) ?_
      exact b21 y1 (0 : Int32) S _ _ _ hm hP hS (lv_sub hl [0, 1] rfl)
    · have hm := hm.1 c_13
      exact b16 y1 S _ _ _ hm hP hS (lv_sub hl [0, 1] rfl)

abbrev rm_X7_proof : Room := { frames := 1, cells := 0, slots := 0, locals := 22 }
def X7_proof_b28 (t0 : Int32) (S : ZS) (Q : Int32 → ZS → Prop) : Prop :=
  Q t0 S
def X7_proof_b13 (t0 : Int32) (S : ZS) (Q : Int32 → ZS → Prop) : Prop :=
  X7_passes t0 (0 : Int32) S (fun r_14 S_14 => (r_14 = 0 → X7_proof_b28 (0 : Int32) S_14 Q) ∧ (¬ r_14 = 0 → X7_proof_b28 (S_14.1 61 13) S_14 Q))
def X7_proof (S : ZS) (Q : Int32 → ZS → Prop) : Prop :=
  ((S.1 61 9) = 0 → X7_proof_b13 (0 : Int32) S Q) ∧ (¬ (S.1 61 9) = 0 → X7_proof_b13 (1 : Int32) S Q)
set_option maxHeartbeats 4000000 in
set_option maxRecDepth 100000 in
theorem c_X7_proof (l : Launch) (D : va_G) (k : Nat → ClassId) (a : Nat → Nat) (hj : zDj a) (S : ZS) (Q : Int32 → ZS → Prop) (hm : X7_proof S Q) (sz : Nat) : Met l yX7_proof wsX7_proof rm_X7_proof (zPc D k a [.ref (a 61)] S sz) (va_Qi Q (zB D k a) (zA a sz)) 0 0 (zA a sz) := by
  refine Met.ofW (cc := cX7_proof) (maxL := 1) (ret := (some .int)) (by decide) rfl ?_
  intro p e s m args below meth c s₁ B hml hv
  obtain ⟨rfl, hsz, hP, hK⟩ := hv
  have hx := B.exec
  have hb := B.bytes
  have hr := B.returns
  have hts := atoms_spec (ws := wsX7_proof) B.pre
  have hown : s.vm.findClass RX7 = some m.cls := findClass_of_methodNamed B.named
  have hlocks := B.notSynchronized
  subst hsz
  have hS : va_S (zA a s.heap.size) s.heap s.heap [] := va_S.rf
  have hF : CallFix p m c cX7_proof 1 s _ wsX7_proof RX7 := ⟨hx, hb, hml, hown, hts⟩
  have i7 : ∀ w ∈ wsX70, w ∈ wsX7_proof := fun _ h => (List.mem_cons_of_mem _ (List.mem_append_right _ h))
  have hl := lv_entry ([.ref (a 61)]) (n := 1) (Nat.le_of_ble_eq_true rfl)
  rw [lg_entry_eq]
  generalize (lg_sl ([.ref (a 61)]) ++ List.replicate (1 - (lg_sl ([.ref (a 61)])).length) Slot.unset).toArray = ls at hl ⊢
  have hl : lv_has ls 1 [(0, .ref (a 61))] := hl
  have b13 : ∀ (t0 : Int32) (S : ZS) (H : Heap) (locs : List Loc) (ls : Array Slot), X7_proof_b13 t0 S Q → va_P D vwCl (zWS k a S) H → va_S (zA a s.heap.size) s.heap H locs → lv_has ls 1 [(0, .ref (a 61))] → zWi p l e (headSpec wsX7_proof rm_X7_proof).room s m ([.ref (a 61)] : List Value) below meth c D k a Q H locs (F0 m 13 ls [.int t0, .ref (a 61)]) := by
    intro t0 S H locs ls hm hP hS hl
    unfold X7_proof_b13 at hm
    have b28 : ∀ (t0 : Int32) (S : ZS) (H : Heap) (locs : List Loc) (ls : Array Slot), X7_proof_b28 t0 S Q → va_P D vwCl (zWS k a S) H → va_S (zA a s.heap.size) s.heap H locs → lv_has ls 1 [(0, .ref (a 61))] → zWi p l e (headSpec wsX7_proof rm_X7_proof).room s m ([.ref (a 61)] : List Value) below meth c D k a Q H locs (F0 m 28 ls [.int t0]) := by
      intro t0 S H locs ls hm hP hS hl
      unfold X7_proof_b28 at hm
      exact z_reti hx hb hr hlocks hP hS hm dX7_proof_28
    refine lv_iconst (v := (0 : Int32)) hx hb dX7_proof_13 (by decide) ?_
    refine z_cVi (As := [.int t0, .int (0 : Int32)]) (rest := []) hF hK hP hS zO_61 rfl rfl (c_X7_passes l D k a hj t0 (0 : Int32) S _ hm _) (cwV 2 hts gX7_proof_X7_passes rfl rfl rfl (by decide +kernel) ⟨Nat.le_of_ble_eq_true rfl, Nat.le_of_ble_eq_true rfl⟩) rfl hl.1 rfl (Nat.le_of_ble_eq_true rfl) dX7_proof_14 ⟨Nat.zero_le _, Nat.zero_le _⟩ (fun r_14 S_14 H locs hm hP hS => ?_)
    refine lv_if_eq (tgt := 27) hx hb dX7_proof_17 (by decide) (fun c_17 => ?_) (fun c_17 => ?_)
    · have hm := hm.1 c_17
      refine lv_iconst (v := (0 : Int32)) hx hb dX7_proof_27 (by decide) ?_
      exact b28 (0 : Int32) S_14 _ _ _ hm hP hS (lv_sub hl [0] rfl)
    · have hm := hm.2 c_17
      refine lv_aload_n hx hb dX7_proof_20 rfl (lv_at hl 0 rfl) ?_
      refine zg_7_proofSet hx hb hts i7 hown hK hP (hts _ (List.mem_of_getElem? (i := 2) rfl)) dX7_proof_21 ?_
      refine lv_goto (tgt := 28) hx hb dX7_proof_24 (by decide) ?_
      exact b28 (S_14.1 61 13) S_14 _ _ _ hm hP hS (lv_sub hl [0] rfl)
  unfold X7_proof at hm
  refine lv_aload_n hx hb dX7_proof_0 rfl (lv_at hl 0 rfl) ?_
  refine lv_aload_n hx hb dX7_proof_1 rfl (lv_at hl 0 rfl) ?_
  refine zg_7_solved hx hb hts i7 hown hK hP (hts _ (List.mem_of_getElem? (i := 1) rfl)) dX7_proof_2 ?_
  refine lv_if_eq (tgt := 12) hx hb dX7_proof_5 (by decide) (fun c_5 => ?_) (fun c_5 => ?_)
  · have hm := hm.1 c_5
    refine lv_iconst (v := (0 : Int32)) hx hb dX7_proof_12 (by decide) ?_
    exact b13 (0 : Int32) S _ _ _ hm hP hS (lv_sub hl [0] rfl)
  · have hm := hm.2 c_5
    refine lv_iconst (v := (1 : Int32)) hx hb dX7_proof_8 (by decide) ?_
    refine lv_goto (tgt := 13) hx hb dX7_proof_9 (by decide) ?_
    exact b13 (1 : Int32) S _ _ _ hm hP hS (lv_sub hl [0] rfl)

abbrev rm_X7_side : Room := { frames := 1, cells := 0, slots := 0, locals := 22 }
def X7_side_b28 (t0 : Int32) (S : ZS) (Q : Int32 → ZS → Prop) : Prop :=
  Q t0 S
def X7_side_b13 (t0 : Int32) (S : ZS) (Q : Int32 → ZS → Prop) : Prop :=
  X7_passes t0 (0 : Int32) S (fun r_14 S_14 => (r_14 = 0 → X7_side_b28 (0 : Int32) S_14 Q) ∧ (¬ r_14 = 0 → X7_side_b28 (S_14.1 61 14) S_14 Q))
def X7_side (S : ZS) (Q : Int32 → ZS → Prop) : Prop :=
  ((S.1 61 9) = 0 → X7_side_b13 (0 : Int32) S Q) ∧ (¬ (S.1 61 9) = 0 → X7_side_b13 (1 : Int32) S Q)
set_option maxHeartbeats 4000000 in
set_option maxRecDepth 100000 in
theorem c_X7_side (l : Launch) (D : va_G) (k : Nat → ClassId) (a : Nat → Nat) (hj : zDj a) (S : ZS) (Q : Int32 → ZS → Prop) (hm : X7_side S Q) (sz : Nat) : Met l yX7_side wsX7_side rm_X7_side (zPc D k a [.ref (a 61)] S sz) (va_Qi Q (zB D k a) (zA a sz)) 0 0 (zA a sz) := by
  refine Met.ofW (cc := cX7_side) (maxL := 1) (ret := (some .int)) (by decide) rfl ?_
  intro p e s m args below meth c s₁ B hml hv
  obtain ⟨rfl, hsz, hP, hK⟩ := hv
  have hx := B.exec
  have hb := B.bytes
  have hr := B.returns
  have hts := atoms_spec (ws := wsX7_side) B.pre
  have hown : s.vm.findClass RX7 = some m.cls := findClass_of_methodNamed B.named
  have hlocks := B.notSynchronized
  subst hsz
  have hS : va_S (zA a s.heap.size) s.heap s.heap [] := va_S.rf
  have hF : CallFix p m c cX7_side 1 s _ wsX7_side RX7 := ⟨hx, hb, hml, hown, hts⟩
  have i7 : ∀ w ∈ wsX70, w ∈ wsX7_side := fun _ h => (List.mem_cons_of_mem _ (List.mem_append_right _ h))
  have hl := lv_entry ([.ref (a 61)]) (n := 1) (Nat.le_of_ble_eq_true rfl)
  rw [lg_entry_eq]
  generalize (lg_sl ([.ref (a 61)]) ++ List.replicate (1 - (lg_sl ([.ref (a 61)])).length) Slot.unset).toArray = ls at hl ⊢
  have hl : lv_has ls 1 [(0, .ref (a 61))] := hl
  have b13 : ∀ (t0 : Int32) (S : ZS) (H : Heap) (locs : List Loc) (ls : Array Slot), X7_side_b13 t0 S Q → va_P D vwCl (zWS k a S) H → va_S (zA a s.heap.size) s.heap H locs → lv_has ls 1 [(0, .ref (a 61))] → zWi p l e (headSpec wsX7_side rm_X7_side).room s m ([.ref (a 61)] : List Value) below meth c D k a Q H locs (F0 m 13 ls [.int t0, .ref (a 61)]) := by
    intro t0 S H locs ls hm hP hS hl
    unfold X7_side_b13 at hm
    have b28 : ∀ (t0 : Int32) (S : ZS) (H : Heap) (locs : List Loc) (ls : Array Slot), X7_side_b28 t0 S Q → va_P D vwCl (zWS k a S) H → va_S (zA a s.heap.size) s.heap H locs → lv_has ls 1 [(0, .ref (a 61))] → zWi p l e (headSpec wsX7_side rm_X7_side).room s m ([.ref (a 61)] : List Value) below meth c D k a Q H locs (F0 m 28 ls [.int t0]) := by
      intro t0 S H locs ls hm hP hS hl
      unfold X7_side_b28 at hm
      exact z_reti hx hb hr hlocks hP hS hm dX7_side_28
    refine lv_iconst (v := (0 : Int32)) hx hb dX7_side_13 (by decide) ?_
    refine z_cVi (As := [.int t0, .int (0 : Int32)]) (rest := []) hF hK hP hS zO_61 rfl rfl (c_X7_passes l D k a hj t0 (0 : Int32) S _ hm _) (cwV 2 hts gX7_side_X7_passes rfl rfl rfl (by decide +kernel) ⟨Nat.le_of_ble_eq_true rfl, Nat.le_of_ble_eq_true rfl⟩) rfl hl.1 rfl (Nat.le_of_ble_eq_true rfl) dX7_side_14 ⟨Nat.zero_le _, Nat.zero_le _⟩ (fun r_14 S_14 H locs hm hP hS => ?_)
    refine lv_if_eq (tgt := 27) hx hb dX7_side_17 (by decide) (fun c_17 => ?_) (fun c_17 => ?_)
    · have hm := hm.1 c_17
      refine lv_iconst (v := (0 : Int32)) hx hb dX7_side_27 (by decide) ?_
      exact b28 (0 : Int32) S_14 _ _ _ hm hP hS (lv_sub hl [0] rfl)
    · have hm := hm.2 c_17
      refine lv_aload_n hx hb dX7_side_20 rfl (lv_at hl 0 rfl) ?_
      refine zg_7_proofSide hx hb hts i7 hown hK hP (hts _ (List.mem_of_getElem? (i := 2) rfl)) dX7_side_21 ?_
      refine lv_goto (tgt := 28) hx hb dX7_side_24 (by decide) ?_
      exact b28 (S_14.1 61 14) S_14 _ _ _ hm hP hS (lv_sub hl [0] rfl)
  unfold X7_side at hm
  refine lv_aload_n hx hb dX7_side_0 rfl (lv_at hl 0 rfl) ?_
  refine lv_aload_n hx hb dX7_side_1 rfl (lv_at hl 0 rfl) ?_
  refine zg_7_solved hx hb hts i7 hown hK hP (hts _ (List.mem_of_getElem? (i := 1) rfl)) dX7_side_2 ?_
  refine lv_if_eq (tgt := 12) hx hb dX7_side_5 (by decide) (fun c_5 => ?_) (fun c_5 => ?_)
  · have hm := hm.1 c_5
    refine lv_iconst (v := (0 : Int32)) hx hb dX7_side_12 (by decide) ?_
    exact b13 (0 : Int32) S _ _ _ hm hP hS (lv_sub hl [0] rfl)
  · have hm := hm.2 c_5
    refine lv_iconst (v := (1 : Int32)) hx hb dX7_side_8 (by decide) ?_
    refine lv_goto (tgt := 13) hx hb dX7_side_9 (by decide) ?_
    exact b13 (1 : Int32) S _ _ _ hm hP hS (lv_sub hl [0] rfl)

