abbrev rm_X7_knapsack : Room := { frames := 2, cells := 0, slots := 0, locals := 47 }
def X7_knapsack (S : ZS) (Q : Int32 → ZS → Prop) : Prop :=
  ∀ S_2 : ZS, S_2 = zu S 61 0 (0 : Int32) → X7_isKnapsack S_2 (fun r_6 S_6 => zbit r_6 ∧ Q r_6 S_6)
set_option maxHeartbeats 4000000 in
set_option maxRecDepth 100000 in
theorem c_X7_knapsack (l : Launch) (D : va_G) (k : Nat → ClassId) (a : Nat → Nat) (hj : zDj a) (S : ZS) (Q : Int32 → ZS → Prop) (hm : X7_knapsack S Q) (sz : Nat) : Met l yX7_knapsack wsX7_knapsack rm_X7_knapsack (zPc D k a [.ref (a 61)] S sz) (va_Qi Q (zB D k a) (zA a sz)) 0 0 (zA a sz) := by
  refine Met.ofW (cc := cX7_knapsack) (maxL := 1) (ret := (some .boolean)) (by decide) rfl ?_
  intro p e s m args below meth c s₁ B hml hv
  obtain ⟨rfl, hsz, hP, hK⟩ := hv
  have hx := B.exec
  have hb := B.bytes
  have hr := B.returns
  have hts := atoms_spec (ws := wsX7_knapsack) B.pre
  have hown : s.vm.findClass RX7 = some m.cls := findClass_of_methodNamed B.named
  have hlocks := B.notSynchronized
  subst hsz
  have hS : va_S (zA a s.heap.size) s.heap s.heap [] := va_S.rf
  have hF : CallFix p m c cX7_knapsack 1 s _ wsX7_knapsack RX7 := ⟨hx, hb, hml, hown, hts⟩
  have i7 : ∀ w ∈ wsX70, w ∈ wsX7_knapsack := fun _ h => (List.mem_cons_of_mem _ (List.mem_append_right _ h))
  have hl := lv_entry ([.ref (a 61)]) (n := 1) (Nat.le_of_ble_eq_true rfl)
  rw [lg_entry_eq]
  generalize (lg_sl ([.ref (a 61)]) ++ List.replicate (1 - (lg_sl ([.ref (a 61)])).length) Slot.unset).toArray = ls at hl ⊢
  have hl : lv_has ls 1 [(0, .ref (a 61))] := hl
  unfold X7_knapsack at hm
  refine lv_aload_n hx hb dX7_knapsack_0 rfl (lv_at hl 0 rfl) ?_
  refine lv_iconst (v := (0 : Int32)) hx hb dX7_knapsack_1 (by decide) ?_
  refine zp_7_thrown hx hb hts i7 hown hj hK hP hS (hts _ (List.mem_of_getElem? (i := 1) rfl)) dX7_knapsack_2 (fun H locs hP hS => ?_)
  obtain ⟨S_2, eS_2⟩ : ∃ z : ZS, z = zu S 61 0 (0 : Int32) := ⟨_, rfl⟩
  rw [← eS_2] at hP
  have hm := hm S_2 eS_2
  refine lv_aload_n hx hb dX7_knapsack_5 rfl (lv_at hl 0 rfl) ?_
  refine z_cVi (As := []) (rest := []) hF hK hP hS zO_61 rfl rfl (c_X7_isKnapsack l D k a hj  S_2 _ hm _) (cwV 0 hts gX7_knapsack_X7_isKnapsack rfl rfl rfl (by decide +kernel) ⟨Nat.le_of_ble_eq_true rfl, Nat.le_of_ble_eq_true rfl⟩) rfl hl.1 rfl (Nat.le_of_ble_eq_true rfl) dX7_knapsack_6 ⟨Nat.zero_le _, Nat.zero_le _⟩ (fun r_6 S_6 H locs hm hP hS => ?_)
  exact z_retz hx hb hr hlocks hP hS hm dX7_knapsack_9

abbrev rm_X7_matching : Room := { frames := 4, cells := 0, slots := 0, locals := 93 }
def X7_matching_b141 (x1 : Int32) (S : ZS) (Q : Int32 → ZS → Prop) : Prop :=
  zbit x1 ∧ Q x1 S
def X7_matching_b134 (x2 : Int32) (t0 : Int32) (S : ZS) (Q : Int32 → ZS → Prop) (k98 : Int32 × Int32 × ZS → Prop) : Prop :=
  ∀ x2_135 : Int32, x2_135 = x2 + (1 : Int32) → k98 (t0, x2_135, S)
def X7_matching_b133 (x2 : Int32) (S : ZS) (Q : Int32 → ZS → Prop) (k98 : Int32 × Int32 × ZS → Prop) : Prop :=
  X7_matching_b134 x2 (0 : Int32) S Q k98
def X7_matching_B98 (x1 : Int32) (x2 : Int32) (S : ZS) (Q : Int32 → ZS → Prop) (k98 : Int32 × Int32 × ZS → Prop) : Prop :=
  ((S.1 61 1) ≤ x2 → X7_matching_b141 x1 S Q) ∧ (¬ (S.1 61 1) ≤ x2 → (x1 = 0 → X7_matching_b133 x2 S Q k98) ∧ (¬ x1 = 0 → vp_in x2 10 ∧ ((S.1 62 (x2).toNatClampNeg) = 0 → vp_in x2 10 ∧ ((S.1 63 (x2).toNatClampNeg) = (1 : Int32) → X7_matching_b134 x2 (1 : Int32) S Q k98) ∧ (¬ (S.1 63 (x2).toNatClampNeg) = (1 : Int32) → X7_matching_b133 x2 S Q k98)) ∧ (¬ (S.1 62 (x2).toNatClampNeg) = 0 → X7_matching_b133 x2 S Q k98)))
def X7_matching_L98 (Q : Int32 → ZS → Prop) : (Int32 × Int32 × ZS) → ((Int32 × Int32 × ZS) → Prop) → Prop := fun st k98 => X7_matching_B98 st.1 st.2.1 st.2.2 Q k98
def X7_matching_b96 (x1 : Int32) (S : ZS) (Q : Int32 → ZS → Prop) : Prop :=
  zl (X7_matching_L98 Q) (x1, (0 : Int32), S)
def X7_matching_b90 (x1 : Int32) (x2 : Int32) (S : ZS) (Q : Int32 → ZS → Prop) (k21 : Int32 × Int32 × ZS → Prop) : Prop :=
  ∀ x2_90 : Int32, x2_90 = x2 + (1 : Int32) → k21 (x1, x2_90, S)
def X7_matching_b83 (x2 : Int32) (x3 : Int32) (t0 : Int32) (S : ZS) (Q : Int32 → ZS → Prop) (k21 : Int32 × Int32 × ZS → Prop) (k51 : Int32 × Int32 × ZS → Prop) : Prop :=
  ∀ x3_84 : Int32, x3_84 = x3 + (1 : Int32) → k51 (t0, x3_84, S)
def X7_matching_b82 (x2 : Int32) (x3 : Int32) (S : ZS) (Q : Int32 → ZS → Prop) (k21 : Int32 × Int32 × ZS → Prop) (k51 : Int32 × Int32 × ZS → Prop) : Prop :=
  X7_matching_b83 x2 x3 (0 : Int32) S Q k21 k51
def X7_matching_B51 (x2 : Int32) (x1 : Int32) (x3 : Int32) (S : ZS) (Q : Int32 → ZS → Prop) (k21 : Int32 × Int32 × ZS → Prop) (k51 : Int32 × Int32 × ZS → Prop) : Prop :=
  ((S.1 61 1) ≤ x3 → X7_matching_b90 x1 x2 S Q k21) ∧ (¬ (S.1 61 1) ≤ x3 → (x1 = 0 → X7_matching_b82 x2 x3 S Q k21 k51) ∧ (¬ x1 = 0 → X7_coef x2 x3 S (fun r_66 S_66 => X7_within (Int32.toInt64 r_66) (0 : Int64) (1 : Int64) S_66 (fun r_72 S_72 => (r_72 = 0 → X7_matching_b82 x2 x3 S_72 Q k21 k51) ∧ (¬ r_72 = 0 → X7_matching_b83 x2 x3 (1 : Int32) S_72 Q k21 k51)))))
def X7_matching_L51 (x2 : Int32) (Q : Int32 → ZS → Prop) (k21 : Int32 × Int32 × ZS → Prop) : (Int32 × Int32 × ZS) → ((Int32 × Int32 × ZS) → Prop) → Prop := fun st k51 => X7_matching_B51 x2 st.1 st.2.1 st.2.2 Q k21 k51
def X7_matching_b48 (x2 : Int32) (t0 : Int32) (S : ZS) (Q : Int32 → ZS → Prop) (k21 : Int32 × Int32 × ZS → Prop) : Prop :=
  zl (X7_matching_L51 x2 Q k21) (t0, (0 : Int32), S)
def X7_matching_b47 (x2 : Int32) (S : ZS) (Q : Int32 → ZS → Prop) (k21 : Int32 × Int32 × ZS → Prop) : Prop :=
  X7_matching_b48 x2 (0 : Int32) S Q k21
def X7_matching_B21 (x1 : Int32) (x2 : Int32) (S : ZS) (Q : Int32 → ZS → Prop) (k21 : Int32 × Int32 × ZS → Prop) : Prop :=
  ((S.1 61 2) ≤ x2 → X7_matching_b96 x1 S Q) ∧ (¬ (S.1 61 2) ≤ x2 → (x1 = 0 → X7_matching_b47 x2 S Q k21) ∧ (¬ x1 = 0 → vp_in x2 8 ∧ ((S.1 66 (x2).toNatClampNeg) = (1 : Int32) → X7_matching_b48 x2 (1 : Int32) S Q k21) ∧ (¬ (S.1 66 (x2).toNatClampNeg) = (1 : Int32) → X7_matching_b47 x2 S Q k21)))
def X7_matching_L21 (Q : Int32 → ZS → Prop) : (Int32 × Int32 × ZS) → ((Int32 × Int32 × ZS) → Prop) → Prop := fun st k21 => X7_matching_B21 st.1 st.2.1 st.2.2 Q k21
def X7_matching_b18 (t0 : Int32) (S : ZS) (Q : Int32 → ZS → Prop) : Prop :=
  zl (X7_matching_L21 Q) (t0, (0 : Int32), S)
def X7_matching (S : ZS) (Q : Int32 → ZS → Prop) : Prop :=
  ∀ S_2 : ZS, S_2 = zu S 61 0 (0 : Int32) → X7_flowReason S_2 (fun r_6 S_6 => (r_6 = (-1 : Int32) → X7_matching_b18 (1 : Int32) S_6 Q) ∧ (¬ r_6 = (-1 : Int32) → X7_matching_b18 (0 : Int32) S_6 Q))
set_option maxHeartbeats 4000000 in
set_option maxRecDepth 100000 in
theorem c_X7_matching (l : Launch) (D : va_G) (k : Nat → ClassId) (a : Nat → Nat) (hj : zDj a) (S : ZS) (Q : Int32 → ZS → Prop) (hm : X7_matching S Q) (sz : Nat) : Met l yX7_matching wsX7_matching rm_X7_matching (zPc D k a [.ref (a 61)] S sz) (va_Qi Q (zB D k a) (zA a sz)) 0 0 (zA a sz) := by
  refine Met.ofW (cc := cX7_matching) (maxL := 4) (ret := (some .boolean)) (by decide) rfl ?_
  intro p e s m args below meth c s₁ B hml hv
  obtain ⟨rfl, hsz, hP, hK⟩ := hv
  have hx := B.exec
  have hb := B.bytes
  have hr := B.returns
  have hts := atoms_spec (ws := wsX7_matching) B.pre
  have hown : s.vm.findClass RX7 = some m.cls := findClass_of_methodNamed B.named
  have hlocks := B.notSynchronized
  subst hsz
  have hS : va_S (zA a s.heap.size) s.heap s.heap [] := va_S.rf
  have hF : CallFix p m c cX7_matching 4 s _ wsX7_matching RX7 := ⟨hx, hb, hml, hown, hts⟩
  have i7 : ∀ w ∈ wsX70, w ∈ wsX7_matching := fun _ h => (List.mem_cons_of_mem _ (List.mem_append_right _ h))
  have hl := lv_entry ([.ref (a 61)]) (n := 4) (Nat.le_of_ble_eq_true rfl)
  rw [lg_entry_eq]
  generalize (lg_sl ([.ref (a 61)]) ++ List.replicate (4 - (lg_sl ([.ref (a 61)])).length) Slot.unset).toArray = ls at hl ⊢
  have hl : lv_has ls 4 [(0, .ref (a 61))] := hl
  have b18 : ∀ (t0 : Int32) (S : ZS) (H : Heap) (locs : List Loc) (ls : Array Slot), X7_matching_b18 t0 S Q → va_P D vwCl (zWS k a S) H → va_S (zA a s.heap.size) s.heap H locs → lv_has ls 4 [(0, .ref (a 61))] → zWi p l e (headSpec wsX7_matching rm_X7_matching).room s m ([.ref (a 61)] : List Value) below meth c D k a Q H locs (F0 m 18 ls [.int t0]) := by
    intro t0 S H locs ls hm hP hS hl
    unfold X7_matching_b18 at hm
    have b96 : ∀ (x1 : Int32) (S : ZS) (H : Heap) (locs : List Loc) (ls : Array Slot), X7_matching_b96 x1 S Q → va_P D vwCl (zWS k a S) H → va_S (zA a s.heap.size) s.heap H locs → lv_has ls 4 [(0, .ref (a 61)), (1, .int x1)] → zWi p l e (headSpec wsX7_matching rm_X7_matching).room s m ([.ref (a 61)] : List Value) below meth c D k a Q H locs (F0 m 96 ls []) := by
      intro x1 S H locs ls hm hP hS hl
      unfold X7_matching_b96 at hm
      have b141 : ∀ (x1 : Int32) (S : ZS) (H : Heap) (locs : List Loc) (ls : Array Slot), X7_matching_b141 x1 S Q → va_P D vwCl (zWS k a S) H → va_S (zA a s.heap.size) s.heap H locs → lv_has ls 4 [(0, .ref (a 61)), (1, .int x1)] → zWi p l e (headSpec wsX7_matching rm_X7_matching).room s m ([.ref (a 61)] : List Value) below meth c D k a Q H locs (F0 m 141 ls []) := by
        intro x1 S H locs ls hm hP hS hl
        unfold X7_matching_b141 at hm
        refine lv_iload_n hx hb dX7_matching_141 rfl (lv_at hl 1 rfl) ?_
        exact z_retz hx hb hr hlocks hP hS hm dX7_matching_142
      have L98 : ∀ (n : Nat) (x1 : Int32) (x2 : Int32) (S : ZS) (H : Heap) (locs : List Loc) (ls : Array Slot), zn (X7_matching_L98 Q) n (x1, x2, S) → va_P D vwCl (zWS k a S) H → va_S (zA a s.heap.size) s.heap H locs → lv_has ls 4 [(0, .ref (a 61)), (1, .int x1), (2, .int x2)] → zWi p l e (headSpec wsX7_matching rm_X7_matching).room s m ([.ref (a 61)] : List Value) below meth c D k a Q H locs (F0 m 98 ls []) := by
        intro n
        induction n with
        | zero =>
          intro x1 x2 S H locs ls hm
          exact hm.elim
        | succ n ih98 =>
          intro x1 x2 S H locs ls hm hP hS hl
          have hm : X7_matching_B98 x1 x2 S Q (zn (X7_matching_L98 Q) n) := hm
          generalize zn (X7_matching_L98 Q) n = k98 at hm ih98
          unfold X7_matching_B98 at hm
          have b134 : ∀ (x2 : Int32) (t0 : Int32) (S : ZS) (H : Heap) (locs : List Loc) (ls : Array Slot), X7_matching_b134 x2 t0 S Q k98 → va_P D vwCl (zWS k a S) H → va_S (zA a s.heap.size) s.heap H locs → lv_has ls 4 [(0, .ref (a 61)), (2, .int x2)] → zWi p l e (headSpec wsX7_matching rm_X7_matching).room s m ([.ref (a 61)] : List Value) below meth c D k a Q H locs (F0 m 134 ls [.int t0]) := by
            intro x2 t0 S H locs ls hm hP hS hl
            unfold X7_matching_b134 at hm
            refine lv_istore_n (lv' := [(1, .int t0), (0, .ref (a 61)), (2, .int x2)]) hx hb dX7_matching_134 rfl hl (by decide) rfl (fun ls hl => ?_)
            obtain ⟨x2_135, ex2_135⟩ : ∃ y : Int32, y = x2 + (1 : Int32) := ⟨_, rfl⟩
            have hm := hm x2_135 ex2_135
            refine lv_iinc (v := x2_135) (lv' := [(2, .int x2_135), (1, .int t0), (0, .ref (a 61))]) hx hb dX7_matching_135 hl (k := 2) rfl (by rw [ex2_135]; rfl) (by decide) rfl (fun ls hl => ?_)
            refine lv_goto (tgt := 98) hx hb dX7_matching_138 (by decide) ?_
            exact ih98 t0 x2_135 S _ _ _ hm hP hS (lv_sub hl [2, 1, 0] rfl)
          have b133 : ∀ (x2 : Int32) (S : ZS) (H : Heap) (locs : List Loc) (ls : Array Slot), X7_matching_b133 x2 S Q k98 → va_P D vwCl (zWS k a S) H → va_S (zA a s.heap.size) s.heap H locs → lv_has ls 4 [(0, .ref (a 61)), (2, .int x2)] → zWi p l e (headSpec wsX7_matching rm_X7_matching).room s m ([.ref (a 61)] : List Value) below meth c D k a Q H locs (F0 m 133 ls []) := by
            intro x2 S H locs ls hm hP hS hl
            unfold X7_matching_b133 at hm
            refine lv_iconst (v := (0 : Int32)) hx hb dX7_matching_133 (by decide) ?_
            exact b134 x2 (0 : Int32) S _ _ _ hm hP hS (lv_sub hl [0, 1] rfl)
          refine lv_iload_n hx hb dX7_matching_98 rfl (lv_at hl 2 rfl) ?_
          refine lv_aload_n hx hb dX7_matching_99 rfl (lv_at hl 0 rfl) ?_
          refine zg_7_columns hx hb hts i7 hown hK hP (hts _ (List.mem_of_getElem? (i := 4) rfl)) dX7_matching_100 ?_
          refine lv_icmp_ge (tgt := 141) hx hb dX7_matching_103 (by decide) (fun c_103 => ?_) (fun c_103 => ?_)
          · have hm := hm.1 c_103
            exact b141 x1 S _ _ _ hm hP hS (lv_sub hl [0, 1] rfl)
          · have hm := hm.2 c_103
            refine lv_iload_n hx hb dX7_matching_106 rfl (lv_at hl 1 rfl) ?_
            refine lv_if_eq (tgt := 133) hx hb dX7_matching_107 (by decide) (fun c_107 => ?_) (fun c_107 => ?_)
            · have hm := hm.1 c_107
              exact b133 x2 S _ _ _ hm hP hS (lv_sub hl [0, 2] rfl)
            · have hm := hm.2 c_107
              refine lv_aload_n hx hb dX7_matching_110 rfl (lv_at hl 0 rfl) ?_
              refine zg_7_lows hx hb hts i7 hown hK hP (hts _ (List.mem_of_getElem? (i := 5) rfl)) dX7_matching_111 ?_
              refine lv_iload_n hx hb dX7_matching_114 rfl (lv_at hl 2 rfl) ?_
              obtain ⟨h_115, hm⟩ := hm
              refine z_iald hx hb hK hP zI_62 h_115 dX7_matching_115 ?_
              refine lv_if_ne (tgt := 133) hx hb dX7_matching_116 (by decide) (fun c_116 => ?_) (fun c_116 => ?_)
              · have hm := hm.2 c_116
                exact b133 x2 S _ _ _ hm hP hS (lv_sub hl [0, 2] rfl)
              · have hm := hm.1 c_116
                refine lv_aload_n hx hb dX7_matching_119 rfl (lv_at hl 0 rfl) ?_
                refine zg_7_highs hx hb hts i7 hown hK hP (hts _ (List.mem_of_getElem? (i := 6) rfl)) dX7_matching_120 ?_
                refine lv_iload_n hx hb dX7_matching_123 rfl (lv_at hl 2 rfl) ?_
                obtain ⟨h_124, hm⟩ := hm
                refine z_iald hx hb hK hP zI_63 h_124 dX7_matching_124 ?_
                refine lv_iconst (v := (1 : Int32)) hx hb dX7_matching_125 (by decide) ?_
                refine lv_icmp_ne (tgt := 133) hx hb dX7_matching_126 (by decide) (fun c_126 => ?_) (fun c_126 => ?_)
                · have hm := hm.2 c_126
                  exact b133 x2 S _ _ _ hm hP hS (lv_sub hl [0, 2] rfl)
                · have hm := hm.1 c_126
                  refine lv_iconst (v := (1 : Int32)) hx hb dX7_matching_129 (by decide) ?_
                  refine lv_goto (tgt := 134) hx hb dX7_matching_130 (by decide) ?_
                  exact b134 x2 (1 : Int32) S _ _ _ hm hP hS (lv_sub hl [0, 2] rfl)
      refine lv_iconst (v := (0 : Int32)) hx hb dX7_matching_96 (by decide) ?_
      refine lv_istore_n (lv' := [(2, .int (0 : Int32)), (0, .ref (a 61)), (1, .int x1)]) hx hb dX7_matching_97 rfl hl (by decide) rfl (fun ls hl => ?_)
      obtain ⟨n98, hm⟩ := hm
      exact L98 n98 x1 (0 : Int32) S _ _ _ hm hP hS (lv_sub hl [1, 2, 0] rfl)
    have L21 : ∀ (n : Nat) (x1 : Int32) (x2 : Int32) (S : ZS) (H : Heap) (locs : List Loc) (ls : Array Slot), zn (X7_matching_L21 Q) n (x1, x2, S) → va_P D vwCl (zWS k a S) H → va_S (zA a s.heap.size) s.heap H locs → lv_has ls 4 [(0, .ref (a 61)), (1, .int x1), (2, .int x2)] → zWi p l e (headSpec wsX7_matching rm_X7_matching).room s m ([.ref (a 61)] : List Value) below meth c D k a Q H locs (F0 m 21 ls []) := by
      intro n
      induction n with
      | zero =>
        intro x1 x2 S H locs ls hm
        exact hm.elim
      | succ n ih21 =>
        intro x1 x2 S H locs ls hm hP hS hl
        have hm : X7_matching_B21 x1 x2 S Q (zn (X7_matching_L21 Q) n) := hm
        generalize zn (X7_matching_L21 Q) n = k21 at hm ih21
        unfold X7_matching_B21 at hm
        have b48 : ∀ (x2 : Int32) (t0 : Int32) (S : ZS) (H : Heap) (locs : List Loc) (ls : Array Slot), X7_matching_b48 x2 t0 S Q k21 → va_P D vwCl (zWS k a S) H → va_S (zA a s.heap.size) s.heap H locs → lv_has ls 4 [(0, .ref (a 61)), (2, .int x2)] → zWi p l e (headSpec wsX7_matching rm_X7_matching).room s m ([.ref (a 61)] : List Value) below meth c D k a Q H locs (F0 m 48 ls [.int t0]) := by
          intro x2 t0 S H locs ls hm hP hS hl
          unfold X7_matching_b48 at hm
          have b90 : ∀ (x1 : Int32) (x2 : Int32) (S : ZS) (H : Heap) (locs : List Loc) (ls : Array Slot), X7_matching_b90 x1 x2 S Q k21 → va_P D vwCl (zWS k a S) H → va_S (zA a s.heap.size) s.heap H locs → lv_has ls 4 [(0, .ref (a 61)), (1, .int x1), (2, .int x2)] → zWi p l e (headSpec wsX7_matching rm_X7_matching).room s m ([.ref (a 61)] : List Value) below meth c D k a Q H locs (F0 m 90 ls []) := by
            intro x1 x2 S H locs ls hm hP hS hl
            unfold X7_matching_b90 at hm
            obtain ⟨x2_90, ex2_90⟩ : ∃ y : Int32, y = x2 + (1 : Int32) := ⟨_, rfl⟩
            have hm := hm x2_90 ex2_90
            refine lv_iinc (v := x2_90) (lv' := [(2, .int x2_90), (0, .ref (a 61)), (1, .int x1)]) hx hb dX7_matching_90 hl (k := 2) rfl (by rw [ex2_90]; rfl) (by decide) rfl (fun ls hl => ?_)
            refine lv_goto (tgt := 21) hx hb dX7_matching_93 (by decide) ?_
            exact ih21 x1 x2_90 S _ _ _ hm hP hS (lv_sub hl [1, 2, 0] rfl)
          have L51 : ∀ (x2 : Int32) (n : Nat) (x1 : Int32) (x3 : Int32) (S : ZS) (H : Heap) (locs : List Loc) (ls : Array Slot), zn (X7_matching_L51 x2 Q k21) n (x1, x3, S) → va_P D vwCl (zWS k a S) H → va_S (zA a s.heap.size) s.heap H locs → lv_has ls 4 [(0, .ref (a 61)), (1, .int x1), (2, .int x2), (3, .int x3)] → zWi p l e (headSpec wsX7_matching rm_X7_matching).room s m ([.ref (a 61)] : List Value) below meth c D k a Q H locs (F0 m 51 ls []) := by
            intro x2 n
            induction n with
            | zero =>
              intro x1 x3 S H locs ls hm
              exact hm.elim
            | succ n ih51 =>
              intro x1 x3 S H locs ls hm hP hS hl
              have hm : X7_matching_B51 x2 x1 x3 S Q k21 (zn (X7_matching_L51 x2 Q k21) n) := hm
              generalize zn (X7_matching_L51 x2 Q k21) n = k51 at hm ih51
              unfold X7_matching_B51 at hm
              have b83 : ∀ (x3 : Int32) (t0 : Int32) (S : ZS) (H : Heap) (locs : List Loc) (ls : Array Slot), X7_matching_b83 x2 x3 t0 S Q k21 k51 → va_P D vwCl (zWS k a S) H → va_S (zA a s.heap.size) s.heap H locs → lv_has ls 4 [(0, .ref (a 61)), (2, .int x2), (3, .int x3)] → zWi p l e (headSpec wsX7_matching rm_X7_matching).room s m ([.ref (a 61)] : List Value) below meth c D k a Q H locs (F0 m 83 ls [.int t0]) := by
                intro x3 t0 S H locs ls hm hP hS hl
                unfold X7_matching_b83 at hm
                refine lv_istore_n (lv' := [(1, .int t0), (0, .ref (a 61)), (2, .int x2), (3, .int x3)]) hx hb dX7_matching_83 rfl hl (by decide) rfl (fun ls hl => ?_)
                obtain ⟨x3_84, ex3_84⟩ : ∃ y : Int32, y = x3 + (1 : Int32) := ⟨_, rfl⟩
                have hm := hm x3_84 ex3_84
                refine lv_iinc (v := x3_84) (lv' := [(3, .int x3_84), (1, .int t0), (0, .ref (a 61)), (2, .int x2)]) hx hb dX7_matching_84 hl (k := 3) rfl (by rw [ex3_84]; rfl) (by decide) rfl (fun ls hl => ?_)
                refine lv_goto (tgt := 51) hx hb dX7_matching_87 (by decide) ?_
                exact ih51 t0 x3_84 S _ _ _ hm hP hS (lv_sub hl [2, 1, 3, 0] rfl)
              have b82 : ∀ (x3 : Int32) (S : ZS) (H : Heap) (locs : List Loc) (ls : Array Slot), X7_matching_b82 x2 x3 S Q k21 k51 → va_P D vwCl (zWS k a S) H → va_S (zA a s.heap.size) s.heap H locs → lv_has ls 4 [(0, .ref (a 61)), (2, .int x2), (3, .int x3)] → zWi p l e (headSpec wsX7_matching rm_X7_matching).room s m ([.ref (a 61)] : List Value) below meth c D k a Q H locs (F0 m 82 ls []) := by
                intro x3 S H locs ls hm hP hS hl
                unfold X7_matching_b82 at hm
                refine lv_iconst (v := (0 : Int32)) hx hb dX7_matching_82 (by decide) ?_
                exact b83 x3 (0 : Int32) S _ _ _ hm hP hS (lv_sub hl [0, 1, 2] rfl)
              refine lv_iload_n hx hb dX7_matching_51 rfl (lv_at hl 3 rfl) ?_
              refine lv_aload_n hx hb dX7_matching_52 rfl (lv_at hl 0 rfl) ?_
              refine zg_7_columns hx hb hts i7 hown hK hP (hts _ (List.mem_of_getElem? (i := 4) rfl)) dX7_matching_53 ?_
              refine lv_icmp_ge (tgt := 90) hx hb dX7_matching_56 (by decide) (fun c_56 => ?_) (fun c_56 => ?_)
              · have hm := hm.1 c_56
                exact b90 x1 x2 S _ _ _ hm hP hS (lv_sub hl [0, 1, 2] rfl)
              · have hm := hm.2 c_56
                refine lv_iload_n hx hb dX7_matching_59 rfl (lv_at hl 1 rfl) ?_
                refine lv_if_eq (tgt := 82) hx hb dX7_matching_60 (by decide) (fun c_60 => ?_) (fun c_60 => ?_)
                · have hm := hm.1 c_60
                  exact b82 x3 S _ _ _ hm hP hS (lv_sub hl [0, 2, 3] rfl)
                · have hm := hm.2 c_60
                  refine lv_aload_n hx hb dX7_matching_63 rfl (lv_at hl 0 rfl) ?_
                  refine lv_iload_n hx hb dX7_matching_64 rfl (lv_at hl 2 rfl) ?_
                  refine lv_iload_n hx hb dX7_matching_65 rfl (lv_at hl 3 rfl) ?_
                  refine z_cVi (As := [.int x2, .int x3]) (rest := []) hF hK hP hS zO_61 rfl rfl (c_X7_coef l D k a hj x2 x3 S _ hm _) (cwV 2 hts gX7_matching_X7_coef rfl rfl rfl (by decide +kernel) ⟨Nat.le_of_ble_eq_true rfl, Nat.le_of_ble_eq_true rfl⟩) rfl hl.1 rfl (Nat.le_of_ble_eq_true rfl) dX7_matching_66 ⟨Nat.zero_le _, Nat.zero_le _⟩ (fun r_66 S_66 H locs hm hP hS => ?_)
                  refine lv_i2l hx hb dX7_matching_69 rfl ?_
                  refine lv_lconst (v := (0 : Int64)) hx hb dX7_matching_70 (by decide) ?_
                  refine lv_lconst (v := (1 : Int64)) hx hb dX7_matching_71 (by decide) ?_
                  refine z_cSi (As := [.long (Int32.toInt64 r_66), .long (0 : Int64), .long (1 : Int64)]) (rest := []) hF hK hP hS (c_X7_within l D k a hj (Int32.toInt64 r_66) (0 : Int64) (1 : Int64) S_66 _ hm _) (va_cwS 3 hts gX7_matching_X7_within rfl rfl rfl (by decide +kernel) ⟨Nat.le_of_ble_eq_true rfl, Nat.le_of_ble_eq_true rfl⟩) rfl hl.1 rfl (Nat.le_of_ble_eq_true rfl) dX7_matching_72 ⟨Nat.zero_le _, Nat.zero_le _⟩ (fun r_72 S_72 H locs hm hP hS => ?_)
                  refine lv_if_eq (tgt := 82) hx hb dX7_matching_75 (by decide) (fun c_75 => ?_) (fun c_75 => ?_)
                  · have hm := hm.1 c_75
                    exact b82 x3 S_72 _ _ _ hm hP hS (lv_sub hl [0, 2, 3] rfl)
                  · have hm := hm.2 c_75
                    refine lv_iconst (v := (1 : Int32)) hx hb dX7_matching_78 (by decide) ?_
                    refine lv_goto (tgt := 83) hx hb dX7_matching_79 (by decide) ?_
                    exact b83 x3 (1 : Int32) S_72 _ _ _ hm hP hS (lv_sub hl [0, 2, 3] rfl)
          refine lv_istore_n (lv' := [(1, .int t0), (0, .ref (a 61)), (2, .int x2)]) hx hb dX7_matching_48 rfl hl (by decide) rfl (fun ls hl => ?_)
          refine lv_iconst (v := (0 : Int32)) hx hb dX7_matching_49 (by decide) ?_
          refine lv_istore_n (lv' := [(3, .int (0 : Int32)), (1, .int t0), (0, .ref (a 61)), (2, .int x2)]) hx hb dX7_matching_50 rfl hl (by decide) rfl (fun ls hl => ?_)
          obtain ⟨n51, hm⟩ := hm
          exact L51 x2 n51 t0 (0 : Int32) S _ _ _ hm hP hS (lv_sub hl [2, 1, 3, 0] rfl)
        have b47 : ∀ (x2 : Int32) (S : ZS) (H : Heap) (locs : List Loc) (ls : Array Slot), X7_matching_b47 x2 S Q k21 → va_P D vwCl (zWS k a S) H → va_S (zA a s.heap.size) s.heap H locs → lv_has ls 4 [(0, .ref (a 61)), (2, .int x2)] → zWi p l e (headSpec wsX7_matching rm_X7_matching).room s m ([.ref (a 61)] : List Value) below meth c D k a Q H locs (F0 m 47 ls []) := by
          intro x2 S H locs ls hm hP hS hl
          unfold X7_matching_b47 at hm
          refine lv_iconst (v := (0 : Int32)) hx hb dX7_matching_47 (by decide) ?_
          exact b48 x2 (0 : Int32) S _ _ _ hm hP hS (lv_sub hl [0, 1] rfl)
        refine lv_iload_n hx hb dX7_matching_21 rfl (lv_at hl 2 rfl) ?_
        refine lv_aload_n hx hb dX7_matching_22 rfl (lv_at hl 0 rfl) ?_
        refine zg_7_rows hx hb hts i7 hown hK hP (hts _ (List.mem_of_getElem? (i := 2) rfl)) dX7_matching_23 ?_
        refine lv_icmp_ge (tgt := 96) hx hb dX7_matching_26 (by decide) (fun c_26 => ?_) (fun c_26 => ?_)
        · have hm := hm.1 c_26
          exact b96 x1 S _ _ _ hm hP hS (lv_sub hl [0, 1] rfl)
        · have hm := hm.2 c_26
          refine lv_iload_n hx hb dX7_matching_29 rfl (lv_at hl 1 rfl) ?_
          refine lv_if_eq (tgt := 47) hx hb dX7_matching_30 (by decide) (fun c_30 => ?_) (fun c_30 => ?_)
          · have hm := hm.1 c_30
            exact b47 x2 S _ _ _ hm hP hS (lv_sub hl [0, 2] rfl)
          · have hm := hm.2 c_30
            refine lv_aload_n hx hb dX7_matching_33 rfl (lv_at hl 0 rfl) ?_
            refine zg_7_rights hx hb hts i7 hown hK hP (hts _ (List.mem_of_getElem? (i := 3) rfl)) dX7_matching_34 ?_
            refine lv_iload_n hx hb dX7_matching_37 rfl (lv_at hl 2 rfl) ?_
            obtain ⟨h_38, hm⟩ := hm
            refine z_iald hx hb hK hP zI_66 h_38 dX7_matching_38 ?_
            refine lv_iconst (v := (1 : Int32)) hx hb dX7_matching_39 (by decide) ?_
            refine lv_icmp_ne (tgt := 47) hx hb dX7_matching_40 (by decide) (fun c_40 => ?_) (fun c_40 => ?_)
            · have hm := hm.2 c_40
              exact b47 x2 S _ _ _ hm hP hS (lv_sub hl [0, 2] rfl)
            · have hm := hm.1 c_40
              refine lv_iconst (v := (1 : Int32)) hx hb dX7_matching_43 (by decide) ?_
              refine lv_goto (tgt := 48) hx hb dX7_matching_44 (by decide) ?_
              exact b48 x2 (1 : Int32) S _ _ _ hm hP hS (lv_sub hl [0, 2] rfl)
    refine lv_istore_n (lv' := [(1, .int t0), (0, .ref (a 61))]) hx hb dX7_matching_18 rfl hl (by decide) rfl (fun ls hl => ?_)
    refine lv_iconst (v := (0 : Int32)) hx hb dX7_matching_19 (by decide) ?_
    refine lv_istore_n (lv' := [(2, .int (0 : Int32)), (1, .int t0), (0, .ref (a 61))]) hx hb dX7_matching_20 rfl hl (by decide) rfl (fun ls hl => ?_)
    obtain ⟨n21, hm⟩ := hm
    exact L21 n21 t0 (0 : Int32) S _ _ _ hm hP hS (lv_sub hl [2, 1, 0] rfl)
  unfold X7_matching at hm
  refine lv_aload_n hx hb dX7_matching_0 rfl (lv_at hl 0 rfl) ?_
  refine lv_iconst (v := (0 : Int32)) hx hb dX7_matching_1 (by decide) ?_
  refine zp_7_thrown hx hb hts i7 hown hj hK hP hS (hts _ (List.mem_of_getElem? (i := 1) rfl)) dX7_matching_2 (fun H locs hP hS => ?_)
  obtain ⟨S_2, eS_2⟩ : ∃ z : ZS, z = zu S 61 0 (0 : Int32) := ⟨_, rfl⟩
  rw [← eS_2] at hP
  have hm := hm S_2 eS_2
  refine lv_aload_n hx hb dX7_matching_5 rfl (lv_at hl 0 rfl) ?_
  refine z_cVi (As := []) (rest := []) hF hK hP hS zO_61 rfl rfl (c_X7_flowReason l D k a hj  S_2 _ hm _) (cwV 0 hts gX7_matching_X7_flowReason rfl rfl rfl (by decide +kernel) ⟨Nat.le_of_ble_eq_true rfl, Nat.le_of_ble_eq_true rfl⟩) rfl hl.1 rfl (Nat.le_of_ble_eq_true rfl) dX7_matching_6 ⟨Nat.zero_le _, Nat.zero_le _⟩ (fun r_6 S_6 H locs hm hP hS => ?_)
  refine lv_iconst (v := (-1 : Int32)) hx hb dX7_matching_9 (by decide) ?_
  refine lv_icmp_ne (tgt := 17) hx hb dX7_matching_10 (by decide) (fun c_10 => ?_) (fun c_10 => ?_)
  · have hm := hm.2 c_10
    refine lv_iconst (v := (0 : Int32)) hx hb dX7_matching_17 (by decide) ?_
    exact b18 (0 : Int32) S_6 _ _ _ hm hP hS (lv_sub hl [0] rfl)
  · have hm := hm.1 c_10
    refine lv_iconst (v := (1 : Int32)) hx hb dX7_matching_13 (by decide) ?_
    refine lv_goto (tgt := 18) hx hb dX7_matching_14 (by decide) ?_
    exact b18 (1 : Int32) S_6 _ _ _ hm hP hS (lv_sub hl [0] rfl)

abbrev rm_X7_terms : Room := { frames := 1, cells := 0, slots := 0, locals := 22 }
def X7_terms_b35 (x2 : Int32) (S : ZS) (Q : Int32 → ZS → Prop) : Prop :=
  Q x2 S
def X7_terms_b27 (x1 : Int32) (x3 : Int32) (t0 : Int32) (t1 : Int32) (S : ZS) (Q : Int32 → ZS → Prop) (k4 : Int32 × Int32 × ZS → Prop) : Prop :=
  ∀ x2_28 : Int32, x2_28 = (t1 + t0) → ∀ x3_29 : Int32, x3_29 = x3 + (1 : Int32) → k4 (x2_28, x3_29, S)
def X7_terms_B4 (x1 : Int32) (x2 : Int32) (x3 : Int32) (S : ZS) (Q : Int32 → ZS → Prop) (k4 : Int32 × Int32 × ZS → Prop) : Prop :=
  ((S.1 61 2) ≤ x3 → X7_terms_b35 x2 S Q) ∧ (¬ (S.1 61 2) ≤ x3 → X7_coef x3 x1 S (fun r_16 S_16 => (r_16 = 0 → X7_terms_b27 x1 x3 (0 : Int32) x2 S_16 Q k4) ∧ (¬ r_16 = 0 → X7_terms_b27 x1 x3 (1 : Int32) x2 S_16 Q k4)))
def X7_terms_L4 (x1 : Int32) (Q : Int32 → ZS → Prop) : (Int32 × Int32 × ZS) → ((Int32 × Int32 × ZS) → Prop) → Prop := fun st k4 => X7_terms_B4 x1 st.1 st.2.1 st.2.2 Q k4
def X7_terms (y1 : Int32) (S : ZS) (Q : Int32 → ZS → Prop) : Prop :=
  zl (X7_terms_L4 y1 Q) ((0 : Int32), (0 : Int32), S)
set_option maxHeartbeats 4000000 in
set_option maxRecDepth 100000 in
theorem c_X7_terms (l : Launch) (D : va_G) (k : Nat → ClassId) (a : Nat → Nat) (hj : zDj a) (y1 : Int32) (S : ZS) (Q : Int32 → ZS → Prop) (hm : X7_terms y1 S Q) (sz : Nat) : Met l yX7_terms wsX7_terms rm_X7_terms (zPc D k a [.ref (a 61), .int y1] S sz) (va_Qi Q (zB D k a) (zA a sz)) 0 0 (zA a sz) := by
  refine Met.ofW (cc := cX7_terms) (maxL := 4) (ret := (some .int)) (by decide) rfl ?_
  intro p e s m args below meth c s₁ B hml hv
  obtain ⟨rfl, hsz, hP, hK⟩ := hv
  have hx := B.exec
  have hb := B.bytes
  have hr := B.returns
  have hts := atoms_spec (ws := wsX7_terms) B.pre
  have hown : s.vm.findClass RX7 = some m.cls := findClass_of_methodNamed B.named
  have hlocks := B.notSynchronized
  subst hsz
  have hS : va_S (zA a s.heap.size) s.heap s.heap [] := va_S.rf
  have hF : CallFix p m c cX7_terms 4 s _ wsX7_terms RX7 := ⟨hx, hb, hml, hown, hts⟩
  have i7 : ∀ w ∈ wsX70, w ∈ wsX7_terms := fun _ h => (List.mem_cons_of_mem _ (List.mem_append_right _ h))
  have hl := lv_entry ([.ref (a 61), .int y1]) (n := 4) (Nat.le_of_ble_eq_true rfl)
  rw [lg_entry_eq]
  generalize (lg_sl ([.ref (a 61), .int y1]) ++ List.replicate (4 - (lg_sl ([.ref (a 61), .int y1])).length) Slot.unset).toArray = ls at hl ⊢
  have hl : lv_has ls 4 [(0, .ref (a 61)), (1, .int y1)] := hl
  have b35 : ∀ (x2 : Int32) (S : ZS) (H : Heap) (locs : List Loc) (ls : Array Slot), X7_terms_b35 x2 S Q → va_P D vwCl (zWS k a S) H → va_S (zA a s.heap.size) s.heap H locs → lv_has ls 4 [(0, .ref (a 61)), (2, .int x2)] → zWi p l e (headSpec wsX7_terms rm_X7_terms).room s m ([.ref (a 61), .int y1] : List Value) below meth c D k a Q H locs (F0 m 35 ls []) := by
    intro x2 S H locs ls hm hP hS hl
    unfold X7_terms_b35 at hm
    refine lv_iload_n hx hb dX7_terms_35 rfl (lv_at hl 1 rfl) ?_
    exact z_reti hx hb hr hlocks hP hS hm dX7_terms_36
  have L4 : ∀ (x1 : Int32) (n : Nat) (x2 : Int32) (x3 : Int32) (S : ZS) (H : Heap) (locs : List Loc) (ls : Array Slot), zn (X7_terms_L4 x1 Q) n (x2, x3, S) → va_P D vwCl (zWS k a S) H → va_S (zA a s.heap.size) s.heap H locs → lv_has ls 4 [(0, .ref (a 61)), (1, .int x1), (2, .int x2), (3, .int x3)] → zWi p l e (headSpec wsX7_terms rm_X7_terms).room s m ([.ref (a 61), .int y1] : List Value) below meth c D k a Q H locs (F0 m 4 ls []) := by
    intro x1 n
    induction n with
    | zero =>
      intro x2 x3 S H locs ls hm
      exact hm.elim
    | succ n ih4 =>
      intro x2 x3 S H locs ls hm hP hS hl
      have hm : X7_terms_B4 x1 x2 x3 S Q (zn (X7_terms_L4 x1 Q) n) := hm
      generalize zn (X7_terms_L4 x1 Q) n = k4 at hm ih4
      unfold X7_terms_B4 at hm
      have b27 : ∀ (x3 : Int32) (t0 : Int32) (t1 : Int32) (S : ZS) (H : Heap) (locs : List Loc) (ls : Array Slot), X7_terms_b27 x1 x3 t0 t1 S Q k4 → va_P D vwCl (zWS k a S) H → va_S (zA a s.heap.size) s.heap H locs → lv_has ls 4 [(0, .ref (a 61)), (1, .int x1), (3, .int x3)] → zWi p l e (headSpec wsX7_terms rm_X7_terms).room s m ([.ref (a 61), .int y1] : List Value) below meth c D k a Q H locs (F0 m 27 ls [.int t0, .int t1]) := by
        intro x3 t0 t1 S H locs ls hm hP hS hl
        unfold X7_terms_b27 at hm
        refine lv_iadd hx hb dX7_terms_27 ?_
        refine lv_topi (fun x2_28 ex2_28 => ?_)
        have hm := hm x2_28 ex2_28
        refine lv_istore_n (lv' := [(2, .int x2_28), (0, .ref (a 61)), (1, .int x1), (3, .int x3)]) hx hb dX7_terms_28 rfl hl (by decide) rfl (fun ls hl => ?_)
        obtain ⟨x3_29, ex3_29⟩ : ∃ y : Int32, y = x3 + (1 : Int32) := ⟨_, rfl⟩
        have hm := hm x3_29 ex3_29
        refine lv_iinc (v := x3_29) (lv' := [(3, .int x3_29), (2, .int x2_28), (0, .ref (a 61)), (1, .int x1)]) hx hb dX7_terms_29 hl (k := 3) rfl (by rw [ex3_29]; rfl) (by decide) rfl (fun ls hl => ?_)
        refine lv_goto (tgt := 4) hx hb dX7_terms_32 (by decide) ?_
        exact ih4 x2_28 x3_29 S _ _ _ hm hP hS (lv_sub hl [2, 3, 1, 0] rfl)
      refine lv_iload_n hx hb dX7_terms_4 rfl (lv_at hl 3 rfl) ?_
      refine lv_aload_n hx hb dX7_terms_5 rfl (lv_at hl 0 rfl) ?_
      refine zg_7_rows hx hb hts i7 hown hK hP (hts _ (List.mem_of_getElem? (i := 1) rfl)) dX7_terms_6 ?_
      refine lv_icmp_ge (tgt := 35) hx hb dX7_terms_9 (by decide) (fun c_9 => ?_) (fun c_9 => ?_)
      · have hm := hm.1 c_9
        exact b35 x2 S _ _ _ hm hP hS (lv_sub hl [0, 2] rfl)
      · have hm := hm.2 c_9
        refine lv_iload_n hx hb dX7_terms_12 rfl (lv_at hl 2 rfl) ?_
        refine lv_aload_n hx hb dX7_terms_13 rfl (lv_at hl 0 rfl) ?_
        refine lv_iload_n hx hb dX7_terms_14 rfl (lv_at hl 3 rfl) ?_
        refine lv_iload_n hx hb dX7_terms_15 rfl (lv_at hl 1 rfl) ?_
        refine z_cVi (As := [.int x3, .int x1]) (rest := [.int x2]) hF hK hP hS zO_61 rfl rfl (c_X7_coef l D k a hj x3 x1 S _ hm _) (cwV 2 hts gX7_terms_X7_coef rfl rfl rfl (by decide +kernel) ⟨Nat.le_of_ble_eq_true rfl, Nat.le_of_ble_eq_true rfl⟩) rfl hl.1 rfl (Nat.le_of_ble_eq_true rfl) dX7_terms_16 ⟨Nat.zero_le _, Nat.zero_le _⟩ (fun r_16 S_16 H locs hm hP hS => ?_)
        refine lv_if_eq (tgt := 26) hx hb dX7_terms_19 (by decide) (fun c_19 => ?_) (fun c_19 => ?_)
        · have hm := hm.1 c_19
          refine lv_iconst (v := (0 : Int32)) hx hb dX7_terms_26 (by decide) ?_
          exact b27 x3 (0 : Int32) x2 S_16 _ _ _ hm hP hS (lv_sub hl [0, 1, 3] rfl)
        · have hm := hm.2 c_19
          refine lv_iconst (v := (1 : Int32)) hx hb dX7_terms_22 (by decide) ?_
          refine lv_goto (tgt := 27) hx hb dX7_terms_23 (by decide) ?_
          exact b27 x3 (1 : Int32) x2 S_16 _ _ _ hm hP hS (lv_sub hl [0, 1, 3] rfl)
  unfold X7_terms at hm
  refine lv_iconst (v := (0 : Int32)) hx hb dX7_terms_0 (by decide) ?_
  refine lv_istore_n (lv' := [(2, .int (0 : Int32)), (0, .ref (a 61)), (1, .int y1)]) hx hb dX7_terms_1 rfl hl (by decide) rfl (fun ls hl => ?_)
  refine lv_iconst (v := (0 : Int32)) hx hb dX7_terms_2 (by decide) ?_
  refine lv_istore_n (lv' := [(3, .int (0 : Int32)), (2, .int (0 : Int32)), (0, .ref (a 61)), (1, .int y1)]) hx hb dX7_terms_3 rfl hl (by decide) rfl (fun ls hl => ?_)
  obtain ⟨n4, hm⟩ := hm
  exact L4 y1 n4 (0 : Int32) (0 : Int32) S _ _ _ hm hP hS (lv_sub hl [2, 3, 1, 0] rfl)

abbrev rm_X7_way : Room := { frames := 4, cells := 0, slots := 0, locals := 93 }
def X7_way_b234 (t0 : Int32) (S : ZS) (Q : Int32 → ZS → Prop) : Prop :=
  zbit t0 ∧ Q t0 S
def X7_way_b233 (S : ZS) (Q : Int32 → ZS → Prop) : Prop :=
  X7_way_b234 (0 : Int32) S Q
def X7_way_b194 (x1 : Int32) (x2 : Int32) (x3 : Int32) (x4 : Int32) (S : ZS) (Q : Int32 → ZS → Prop) : Prop :=
  (x1 = 0 → X7_way_b233 S Q) ∧ (¬ x1 = 0 → (x4 = (2 : Int32) → (x2 = (-1 : Int32) → X7_way_b233 S Q) ∧ (¬ x2 = (-1 : Int32) → (x3 = (-1 : Int32) → X7_way_b233 S Q) ∧ (¬ x3 = (-1 : Int32) → vp_in x2 8 ∧ vp_in x3 8 ∧ ((S.1 70 (x2).toNatClampNeg) = (S.1 70 (x3).toNatClampNeg) → X7_way_b234 (1 : Int32) S Q) ∧ (¬ (S.1 70 (x2).toNatClampNeg) = (S.1 70 (x3).toNatClampNeg) → X7_way_b233 S Q)))) ∧ (¬ x4 = (2 : Int32) → X7_way_b233 S Q))
def X7_way_b187 (x2 : Int32) (x3 : Int32) (x4 : Int32) (x5 : Int32) (t0 : Int32) (S : ZS) (Q : Int32 → ZS → Prop) (k128 : Int32 × Int32 × ZS → Prop) : Prop :=
  ∀ x5_188 : Int32, x5_188 = x5 + (1 : Int32) → k128 (t0, x5_188, S)
def X7_way_b186 (x2 : Int32) (x3 : Int32) (x4 : Int32) (x5 : Int32) (S : ZS) (Q : Int32 → ZS → Prop) (k128 : Int32 × Int32 × ZS → Prop) : Prop :=
  X7_way_b187 x2 x3 x4 x5 (0 : Int32) S Q k128
def X7_way_B128 (x2 : Int32) (x3 : Int32) (x4 : Int32) (x1 : Int32) (x5 : Int32) (S : ZS) (Q : Int32 → ZS → Prop) (k128 : Int32 × Int32 × ZS → Prop) : Prop :=
  ((S.1 61 1) ≤ x5 → X7_way_b194 x1 x2 x3 x4 S Q) ∧ (¬ (S.1 61 1) ≤ x5 → (x1 = 0 → X7_way_b186 x2 x3 x4 x5 S Q k128) ∧ (¬ x1 = 0 → X7_terms x5 S (fun r_144 S_144 => (r_144 = (2 : Int32) → vp_in x5 10 ∧ ((S_144.1 62 (x5).toNatClampNeg) = 0 → vp_in x5 10 ∧ ((S_144.1 63 (x5).toNatClampNeg) < (1 : Int32) → X7_way_b186 x2 x3 x4 x5 S_144 Q k128) ∧ (¬ (S_144.1 63 (x5).toNatClampNeg) < (1 : Int32) → vp_in x5 10 ∧ ((S_144.1 64 (x5).toNatClampNeg) < 0 → X7_way_b186 x2 x3 x4 x5 S_144 Q k128) ∧ (¬ (S_144.1 64 (x5).toNatClampNeg) < 0 → X7_way_b187 x2 x3 x4 x5 (1 : Int32) S_144 Q k128))) ∧ (¬ (S_144.1 62 (x5).toNatClampNeg) = 0 → X7_way_b186 x2 x3 x4 x5 S_144 Q k128)) ∧ (¬ r_144 = (2 : Int32) → X7_way_b186 x2 x3 x4 x5 S_144 Q k128))))
def X7_way_L128 (x2 : Int32) (x3 : Int32) (x4 : Int32) (Q : Int32 → ZS → Prop) : (Int32 × Int32 × ZS) → ((Int32 × Int32 × ZS) → Prop) → Prop := fun st k128 => X7_way_B128 x2 x3 x4 st.1 st.2.1 st.2.2 Q k128
def X7_way_b125 (x1 : Int32) (x2 : Int32) (x3 : Int32) (x4 : Int32) (S : ZS) (Q : Int32 → ZS → Prop) : Prop :=
  zl (X7_way_L128 x2 x3 x4 Q) (x1, (0 : Int32), S)
def X7_way_b116 (x1 : Int32) (x2 : Int32) (x3 : Int32) (x5 : Int32) (t0 : Int32) (t1 : Int32) (S : ZS) (Q : Int32 → ZS → Prop) (k31 : Int32 × Int32 × Int32 × Int32 × Int32 × ZS → Prop) : Prop :=
  ∀ x4_117 : Int32, x4_117 = (t1 + t0) → ∀ x5_119 : Int32, x5_119 = x5 + (1 : Int32) → k31 (x1, x2, x3, x4_117, x5_119, S)
def X7_way_b103 (x1 : Int32) (x2 : Int32) (x4 : Int32) (x5 : Int32) (x6 : Int32) (t0 : Int32) (S : ZS) (Q : Int32 → ZS → Prop) (k31 : Int32 × Int32 × Int32 × Int32 × Int32 × ZS → Prop) : Prop :=
  (x6 = 0 → X7_way_b116 x1 x2 t0 x5 (0 : Int32) x4 S Q k31) ∧ (¬ x6 = 0 → X7_way_b116 x1 x2 t0 x5 (1 : Int32) x4 S Q k31)
def X7_way_b90 (x1 : Int32) (x3 : Int32) (x4 : Int32) (x5 : Int32) (x6 : Int32) (t0 : Int32) (S : ZS) (Q : Int32 → ZS → Prop) (k31 : Int32 × Int32 × Int32 × Int32 × Int32 × ZS → Prop) : Prop :=
  (x6 = (-1 : Int32) → X7_way_b103 x1 t0 x4 x5 x6 x5 S Q k31) ∧ (¬ x6 = (-1 : Int32) → X7_way_b103 x1 t0 x4 x5 x6 x3 S Q k31)
def X7_way_b77 (x2 : Int32) (x3 : Int32) (x4 : Int32) (x5 : Int32) (x6 : Int32) (t0 : Int32) (S : ZS) (Q : Int32 → ZS → Prop) (k31 : Int32 × Int32 × Int32 × Int32 × Int32 × ZS → Prop) : Prop :=
  (x6 = (1 : Int32) → X7_way_b90 t0 x3 x4 x5 x6 x5 S Q k31) ∧ (¬ x6 = (1 : Int32) → X7_way_b90 t0 x3 x4 x5 x6 x2 S Q k31)
def X7_way_b76 (x2 : Int32) (x3 : Int32) (x4 : Int32) (x5 : Int32) (x6 : Int32) (S : ZS) (Q : Int32 → ZS → Prop) (k31 : Int32 × Int32 × Int32 × Int32 × Int32 × ZS → Prop) : Prop :=
  X7_way_b77 x2 x3 x4 x5 x6 (0 : Int32) S Q k31
def X7_way_B31 (x1 : Int32) (x2 : Int32) (x3 : Int32) (x4 : Int32) (x5 : Int32) (S : ZS) (Q : Int32 → ZS → Prop) (k31 : Int32 × Int32 × Int32 × Int32 × Int32 × ZS → Prop) : Prop :=
  ((S.1 61 2) ≤ x5 → X7_way_b125 x1 x2 x3 x4 S Q) ∧ (¬ (S.1 61 2) ≤ x5 → vp_in x5 8 ∧ vp_in x5 8 ∧ ∀ x6_55 : Int32, x6_55 = ((S.1 66 (x5).toNatClampNeg) * (S.1 71 (x5).toNatClampNeg)) → (x1 = 0 → X7_way_b76 x2 x3 x4 x5 x6_55 S Q k31) ∧ (¬ x1 = 0 → vp_in x5 8 ∧ ((S.1 65 (x5).toNatClampNeg) = (1 : Int32) → X7_way_b77 x2 x3 x4 x5 x6_55 (1 : Int32) S Q k31) ∧ (¬ (S.1 65 (x5).toNatClampNeg) = (1 : Int32) → X7_way_b76 x2 x3 x4 x5 x6_55 S Q k31)))
def X7_way_L31 (Q : Int32 → ZS → Prop) : (Int32 × Int32 × Int32 × Int32 × Int32 × ZS) → ((Int32 × Int32 × Int32 × Int32 × Int32 × ZS) → Prop) → Prop := fun st k31 => X7_way_B31 st.1 st.2.1 st.2.2.1 st.2.2.2.1 st.2.2.2.2.1 st.2.2.2.2.2 Q k31
def X7_way (S : ZS) (Q : Int32 → ZS → Prop) : Prop :=
  ∀ S_2 : ZS, S_2 = zu S 61 0 (0 : Int32) → X7_flowReason S_2 (fun r_6 S_6 => (r_6 = (-1 : Int32) → X7_findSigns S_6 (fun S_16 => zl (X7_way_L31 Q) ((1 : Int32), (-1 : Int32), (-1 : Int32), (0 : Int32), (0 : Int32), S_16))) ∧ (¬ r_6 = (-1 : Int32) → zbit (0 : Int32) ∧ Q (0 : Int32) S_6))
set_option maxHeartbeats 4000000 in
set_option maxRecDepth 100000 in
theorem c_X7_way (l : Launch) (D : va_G) (k : Nat → ClassId) (a : Nat → Nat) (hj : zDj a) (S : ZS) (Q : Int32 → ZS → Prop) (hm : X7_way S Q) (sz : Nat) : Met l yX7_way wsX7_way rm_X7_way (zPc D k a [.ref (a 61)] S sz) (va_Qi Q (zB D k a) (zA a sz)) 0 0 (zA a sz) := by
  refine Met.ofW (cc := cX7_way) (maxL := 7) (ret := (some .boolean)) (by decide) rfl ?_
  intro p e s m args below meth c s₁ B hml hv
  obtain ⟨rfl, hsz, hP, hK⟩ := hv
  have hx := B.exec
  have hb := B.bytes
  have hr := B.returns
  have hts := atoms_spec (ws := wsX7_way) B.pre
  have hown : s.vm.findClass RX7 = some m.cls := findClass_of_methodNamed B.named
  have hlocks := B.notSynchronized
  subst hsz
  have hS : va_S (zA a s.heap.size) s.heap s.heap [] := va_S.rf
  have hF : CallFix p m c cX7_way 7 s _ wsX7_way RX7 := ⟨hx, hb, hml, hown, hts⟩
  have i7 : ∀ w ∈ wsX70, w ∈ wsX7_way := fun _ h => (List.mem_cons_of_mem _ (List.mem_append_right _ h))
  have hl := lv_entry ([.ref (a 61)]) (n := 7) (Nat.le_of_ble_eq_true rfl)
  rw [lg_entry_eq]
  generalize (lg_sl ([.ref (a 61)]) ++ List.replicate (7 - (lg_sl ([.ref (a 61)])).length) Slot.unset).toArray = ls at hl ⊢
  have hl : lv_has ls 7 [(0, .ref (a 61))] := hl
  have b125 : ∀ (x1 : Int32) (x2 : Int32) (x3 : Int32) (x4 : Int32) (S : ZS) (H : Heap) (locs : List Loc) (ls : Array Slot), X7_way_b125 x1 x2 x3 x4 S Q → va_P D vwCl (zWS k a S) H → va_S (zA a s.heap.size) s.heap H locs → lv_has ls 7 [(0, .ref (a 61)), (1, .int x1), (2, .int x2), (3, .int x3), (4, .int x4)] → zWi p l e (headSpec wsX7_way rm_X7_way).room s m ([.ref (a 61)] : List Value) below meth c D k a Q H locs (F0 m 125 ls []) := by
    intro x1 x2 x3 x4 S H locs ls hm hP hS hl
    unfold X7_way_b125 at hm
    have b194 : ∀ (x1 : Int32) (x2 : Int32) (x3 : Int32) (x4 : Int32) (S : ZS) (H : Heap) (locs : List Loc) (ls : Array Slot), X7_way_b194 x1 x2 x3 x4 S Q → va_P D vwCl (zWS k a S) H → va_S (zA a s.heap.size) s.heap H locs → lv_has ls 7 [(0, .ref (a 61)), (1, .int x1), (2, .int x2), (3, .int x3), (4, .int x4)] → zWi p l e (headSpec wsX7_way rm_X7_way).room s m ([.ref (a 61)] : List Value) below meth c D k a Q H locs (F0 m 194 ls []) := by
      intro x1 x2 x3 x4 S H locs ls hm hP hS hl
      unfold X7_way_b194 at hm
      have b234 : ∀ (t0 : Int32) (S : ZS) (H : Heap) (locs : List Loc) (ls : Array Slot), X7_way_b234 t0 S Q → va_P D vwCl (zWS k a S) H → va_S (zA a s.heap.size) s.heap H locs → lv_has ls 7 [(0, .ref (a 61))] → zWi p l e (headSpec wsX7_way rm_X7_way).room s m ([.ref (a 61)] : List Value) below meth c D k a Q H locs (F0 m 234 ls [.int t0]) := by
        intro t0 S H locs ls hm hP hS hl
        unfold X7_way_b234 at hm
        exact z_retz hx hb hr hlocks hP hS hm dX7_way_234
      have b233 : ∀ (S : ZS) (H : Heap) (locs : List Loc) (ls : Array Slot), X7_way_b233 S Q → va_P D vwCl (zWS k a S) H → va_S (zA a s.heap.size) s.heap H locs → lv_has ls 7 [(0, .ref (a 61))] → zWi p l e (headSpec wsX7_way rm_X7_way).room s m ([.ref (a 61)] : List Value) below meth c D k a Q H locs (F0 m 233 ls []) := by
        intro S H locs ls hm hP hS hl
        unfold X7_way_b233 at hm
        refine lv_iconst (v := (0 : Int32)) hx hb dX7_way_233 (by decide) ?_
        exact b234 (0 : Int32) S _ _ _ hm hP hS (lv_sub hl [0] rfl)
      refine lv_iload_n hx hb dX7_way_194 rfl (lv_at hl 1 rfl) ?_
      refine lv_if_eq (tgt := 233) hx hb dX7_way_195 (by decide) (fun c_195 => ?_) (fun c_195 => ?_)
      · have hm := hm.1 c_195
        exact b233  S _ _ _ hm hP hS (lv_sub hl [0] rfl)
      · have hm := hm.2 c_195
        refine lv_iload hx hb dX7_way_198 (lv_at hl 4 rfl) ?_
        refine lv_iconst (v := (2 : Int32)) hx hb dX7_way_200 (by decide) ?_
        refine lv_icmp_ne (tgt := 233) hx hb dX7_way_201 (by decide) (fun c_201 => ?_) (fun c_201 => ?_)
        · have hm := hm.2 c_201
          exact b233  S _ _ _ hm hP hS (lv_sub hl [0] rfl)
        · have hm := hm.1 c_201
          refine lv_iload_n hx hb dX7_way_204 rfl (lv_at hl 2 rfl) ?_
          refine lv_iconst (v := (-1 : Int32)) hx hb dX7_way_205 (by decide) ?_
          refine lv_icmp_eq (tgt := 233) hx hb dX7_way_206 (by decide) (fun c_206 => ?_) (fun c_206 => ?_)
          · have hm := hm.1 c_206
            exact b233  S _ _ _ hm hP hS (lv_sub hl [0] rfl)
          · have hm := hm.2 c_206
            refine lv_iload_n hx hb dX7_way_209 rfl (lv_at hl 3 rfl) ?_
            refine lv_iconst (v := (-1 : Int32)) hx hb dX7_way_210 (by decide) ?_
            refine lv_icmp_eq (tgt := 233) hx hb dX7_way_211 (by decide) (fun c_211 => ?_) (fun c_211 => ?_)
            · have hm := hm.1 c_211
              exact b233  S _ _ _ hm hP hS (lv_sub hl [0] rfl)
            · have hm := hm.2 c_211
              refine lv_aload_n hx hb dX7_way_214 rfl (lv_at hl 0 rfl) ?_
              refine zg_7_least hx hb hts i7 hown hK hP (hts _ (List.mem_of_getElem? (i := 10) rfl)) dX7_way_215 ?_
              refine lv_iload_n hx hb dX7_way_218 rfl (lv_at hl 2 rfl) ?_
              obtain ⟨h_219, hm⟩ := hm
              refine z_iald hx hb hK hP zI_70 h_219 dX7_way_219 ?_
              refine lv_aload_n hx hb dX7_way_220 rfl (lv_at hl 0 rfl) ?_
              refine zg_7_least hx hb hts i7 hown hK hP (hts _ (List.mem_of_getElem? (i := 10) rfl)) dX7_way_221 ?_
              refine lv_iload_n hx hb dX7_way_224 rfl (lv_at hl 3 rfl) ?_
              obtain ⟨h_225, hm⟩ := hm
              refine z_iald hx hb hK hP zI_70 h_225 dX7_way_225 ?_
              refine lv_icmp_ne (tgt := 233) hx hb dX7_way_226 (by decide) (fun c_226 => ?_) (fun c_226 => ?_)
              · have hm := hm.2 c_226
                exact b233  S _ _ _ hm hP hS (lv_sub hl [0] rfl)
              · have hm := hm.1 c_226
                refine lv_iconst (v := (1 : Int32)) hx hb dX7_way_229 (by decide) ?_
                refine lv_goto (tgt := 234) hx hb dX7_way_230 (by decide) ?_
                exact b234 (1 : Int32) S _ _ _ hm hP hS (lv_sub hl [0] rfl)
    have L128 : ∀ (x2 : Int32) (x3 : Int32) (x4 : Int32) (n : Nat) (x1 : Int32) (x5 : Int32) (S : ZS) (H : Heap) (locs : List Loc) (ls : Array Slot), zn (X7_way_L128 x2 x3 x4 Q) n (x1, x5, S) → va_P D vwCl (zWS k a S) H → va_S (zA a s.heap.size) s.heap H locs → lv_has ls 7 [(0, .ref (a 61)), (1, .int x1), (2, .int x2), (3, .int x3), (4, .int x4), (5, .int x5)] → zWi p l e (headSpec wsX7_way rm_X7_way).room s m ([.ref (a 61)] : List Value) below meth c D k a Q H locs (F0 m 128 ls []) := by
      intro x2 x3 x4 n
      induction n with
      | zero =>
        intro x1 x5 S H locs ls hm
        exact hm.elim
      | succ n ih128 =>
        intro x1 x5 S H locs ls hm hP hS hl
        have hm : X7_way_B128 x2 x3 x4 x1 x5 S Q (zn (X7_way_L128 x2 x3 x4 Q) n) := hm
        generalize zn (X7_way_L128 x2 x3 x4 Q) n = k128 at hm ih128
        unfold X7_way_B128 at hm
        have b187 : ∀ (x5 : Int32) (t0 : Int32) (S : ZS) (H : Heap) (locs : List Loc) (ls : Array Slot), X7_way_b187 x2 x3 x4 x5 t0 S Q k128 → va_P D vwCl (zWS k a S) H → va_S (zA a s.heap.size) s.heap H locs → lv_has ls 7 [(0, .ref (a 61)), (2, .int x2), (3, .int x3), (4, .int x4), (5, .int x5)] → zWi p l e (headSpec wsX7_way rm_X7_way).room s m ([.ref (a 61)] : List Value) below meth c D k a Q H locs (F0 m 187 ls [.int t0]) := by
          intro x5 t0 S H locs ls hm hP hS hl
          unfold X7_way_b187 at hm
          refine lv_istore_n (lv' := [(1, .int t0), (0, .ref (a 61)), (2, .int x2), (3, .int x3), (4, .int x4), (5, .int x5)]) hx hb dX7_way_187 rfl hl (by decide) rfl (fun ls hl => ?_)
          obtain ⟨x5_188, ex5_188⟩ : ∃ y : Int32, y = x5 + (1 : Int32) := ⟨_, rfl⟩
          have hm := hm x5_188 ex5_188
          refine lv_iinc (v := x5_188) (lv' := [(5, .int x5_188), (1, .int t0), (0, .ref (a 61)), (2, .int x2), (3, .int x3), (4, .int x4)]) hx hb dX7_way_188 hl (k := 5) rfl (by rw [ex5_188]; rfl) (by decide) rfl (fun ls hl => ?_)
          refine lv_goto (tgt := 128) hx hb dX7_way_191 (by decide) ?_
          exact ih128 t0 x5_188 S _ _ _ hm hP hS (lv_sub hl [2, 1, 3, 4, 5, 0] rfl)
        have b186 : ∀ (x5 : Int32) (S : ZS) (H : Heap) (locs : List Loc) (ls : Array Slot), X7_way_b186 x2 x3 x4 x5 S Q k128 → va_P D vwCl (zWS k a S) H → va_S (zA a s.heap.size) s.heap H locs → lv_has ls 7 [(0, .ref (a 61)), (2, .int x2), (3, .int x3), (4, .int x4), (5, .int x5)] → zWi p l e (headSpec wsX7_way rm_X7_way).room s m ([.ref (a 61)] : List Value) below meth c D k a Q H locs (F0 m 186 ls []) := by
          intro x5 S H locs ls hm hP hS hl
          unfold X7_way_b186 at hm
          refine lv_iconst (v := (0 : Int32)) hx hb dX7_way_186 (by decide) ?_
          exact b187 x5 (0 : Int32) S _ _ _ hm hP hS (lv_sub hl [0, 1, 2, 3, 4] rfl)
        refine lv_iload hx hb dX7_way_128 (lv_at hl 5 rfl) ?_
        refine lv_aload_n hx hb dX7_way_130 rfl (lv_at hl 0 rfl) ?_
        refine zg_7_columns hx hb hts i7 hown hK hP (hts _ (List.mem_of_getElem? (i := 6) rfl)) dX7_way_131 ?_
        refine lv_icmp_ge (tgt := 194) hx hb dX7_way_134 (by decide) (fun c_134 => ?_) (fun c_134 => ?_)
        · have hm := hm.1 c_134
          exact b194 x1 x2 x3 x4 S _ _ _ hm hP hS (lv_sub hl [0, 1, 2, 3, 4] rfl)
        · have hm := hm.2 c_134
          refine lv_iload_n hx hb dX7_way_137 rfl (lv_at hl 1 rfl) ?_
          refine lv_if_eq (tgt := 186) hx hb dX7_way_138 (by decide) (fun c_138 => ?_) (fun c_138 => ?_)
          · have hm := hm.1 c_138
            exact b186 x5 S _ _ _ hm hP hS (lv_sub hl [0, 2, 3, 4, 5] rfl)
          · have hm := hm.2 c_138
            refine lv_aload_n hx hb dX7_way_141 rfl (lv_at hl 0 rfl) ?_
            refine lv_iload hx hb dX7_way_142 (lv_at hl 5 rfl) ?_
            refine z_cVi (As := [.int x5]) (rest := []) hF hK hP hS zO_61 rfl rfl (c_X7_terms l D k a hj x5 S _ hm _) (cwV 1 hts gX7_way_X7_terms rfl rfl rfl (by decide +kernel) ⟨Nat.le_of_ble_eq_true rfl, Nat.le_of_ble_eq_true rfl⟩) rfl hl.1 rfl (Nat.le_of_ble_eq_true rfl) dX7_way_144 ⟨Nat.zero_le _, Nat.zero_le _⟩ (fun r_144 S_144 H locs hm hP hS => ?_)
            refine lv_iconst (v := (2 : Int32)) hx hb dX7_way_147 (by decide) ?_
            refine lv_icmp_ne (tgt := 186) hx hb dX7_way_148 (by decide) (fun c_148 => ?_) (fun c_148 => ?_)
            · have hm := hm.2 c_148
              exact b186 x5 S_144 _ _ _ hm hP hS (lv_sub hl [0, 2, 3, 4, 5] rfl)
            · have hm := hm.1 c_148
              refine lv_aload_n hx hb dX7_way_151 rfl (lv_at hl 0 rfl) ?_
              refine zg_7_lows hx hb hts i7 hown hK hP (hts _ (List.mem_of_getElem? (i := 7) rfl)) dX7_way_152 ?_
              refine lv_iload hx hb dX7_way_155 (lv_at hl 5 rfl) ?_
              obtain ⟨h_157, hm⟩ := hm
              refine z_iald hx hb hK hP zI_62 h_157 dX7_way_157 ?_
              refine lv_if_ne (tgt := 186) hx hb dX7_way_158 (by decide) (fun c_158 => ?_) (fun c_158 => ?_)
              · have hm := hm.2 c_158
                exact b186 x5 S_144 _ _ _ hm hP hS (lv_sub hl [0, 2, 3, 4, 5] rfl)
              · have hm := hm.1 c_158
                refine lv_aload_n hx hb dX7_way_161 rfl (lv_at hl 0 rfl) ?_
                refine zg_7_highs hx hb hts i7 hown hK hP (hts _ (List.mem_of_getElem? (i := 8) rfl)) dX7_way_162 ?_
                refine lv_iload hx hb dX7_way_165 (lv_at hl 5 rfl) ?_
                obtain ⟨h_167, hm⟩ := hm
                refine z_iald hx hb hK hP zI_63 h_167 dX7_way_167 ?_
                refine lv_iconst (v := (1 : Int32)) hx hb dX7_way_168 (by decide) ?_
                refine lv_icmp_lt (tgt := 186) hx hb dX7_way_169 (by decide) (fun c_169 => ?_) (fun c_169 => ?_)
                · have hm := hm.1 c_169
                  exact b186 x5 S_144 _ _ _ hm hP hS (lv_sub hl [0, 2, 3, 4, 5] rfl)
                · have hm := hm.2 c_169
                  refine lv_aload_n hx hb dX7_way_172 rfl (lv_at hl 0 rfl) ?_
                  refine zg_7_costs hx hb hts i7 hown hK hP (hts _ (List.mem_of_getElem? (i := 9) rfl)) dX7_way_173 ?_
                  refine lv_iload hx hb dX7_way_176 (lv_at hl 5 rfl) ?_
                  obtain ⟨h_178, hm⟩ := hm
                  refine z_iald hx hb hK hP zI_64 h_178 dX7_way_178 ?_
                  refine lv_if_lt (tgt := 186) hx hb dX7_way_179 (by decide) (fun c_179 => ?_) (fun c_179 => ?_)
                  · have hm := hm.1 c_179
                    exact b186 x5 S_144 _ _ _ hm hP hS (lv_sub hl [0, 2, 3, 4, 5] rfl)
                  · have hm := hm.2 c_179
                    refine lv_iconst (v := (1 : Int32)) hx hb dX7_way_182 (by decide) ?_
                    refine lv_goto (tgt := 187) hx hb dX7_way_183 (by decide) ?_
                    exact b187 x5 (1 : Int32) S_144 _ _ _ hm hP hS (lv_sub hl [0, 2, 3, 4, 5] rfl)
    refine lv_iconst (v := (0 : Int32)) hx hb dX7_way_125 (by decide) ?_
    refine lv_istore (lv' := [(5, .int (0 : Int32)), (0, .ref (a 61)), (1, .int x1), (2, .int x2), (3, .int x3), (4, .int x4)]) hx hb dX7_way_126 hl (by decide) rfl (fun ls hl => ?_)
    obtain ⟨n128, hm⟩ := hm
    exact L128 x2 x3 x4 n128 x1 (0 : Int32) S _ _ _ hm hP hS (lv_sub hl [1, 2, 3, 4, 5, 0] rfl)
  have L31 : ∀ (n : Nat) (x1 : Int32) (x2 : Int32) (x3 : Int32) (x4 : Int32) (x5 : Int32) (S : ZS) (H : Heap) (locs : List Loc) (ls : Array Slot), zn (X7_way_L31 Q) n (x1, x2, x3, x4, x5, S) → va_P D vwCl (zWS k a S) H → va_S (zA a s.heap.size) s.heap H locs → lv_has ls 7 [(0, .ref (a 61)), (1, .int x1), (2, .int x2), (3, .int x3), (4, .int x4), (5, .int x5)] → zWi p l e (headSpec wsX7_way rm_X7_way).room s m ([.ref (a 61)] : List Value) below meth c D k a Q H locs (F0 m 31 ls []) := by
    intro n
    induction n with
    | zero =>
      intro x1 x2 x3 x4 x5 S H locs ls hm
      exact hm.elim
    | succ n ih31 =>
      intro x1 x2 x3 x4 x5 S H locs ls hm hP hS hl
      have hm : X7_way_B31 x1 x2 x3 x4 x5 S Q (zn (X7_way_L31 Q) n) := hm
      generalize zn (X7_way_L31 Q) n = k31 at hm ih31
      unfold X7_way_B31 at hm
      have b77 : ∀ (x2 : Int32) (x3 : Int32) (x4 : Int32) (x5 : Int32) (x6 : Int32) (t0 : Int32) (S : ZS) (H : Heap) (locs : List Loc) (ls : Array Slot), X7_way_b77 x2 x3 x4 x5 x6 t0 S Q k31 → va_P D vwCl (zWS k a S) H → va_S (zA a s.heap.size) s.heap H locs → lv_has ls 7 [(0, .ref (a 61)), (2, .int x2), (3, .int x3), (4, .int x4), (5, .int x5), (6, .int x6)] → zWi p l e (headSpec wsX7_way rm_X7_way).room s m ([.ref (a 61)] : List Value) below meth c D k a Q H locs (F0 m 77 ls [.int t0]) := by
        intro x2 x3 x4 x5 x6 t0 S H locs ls hm hP hS hl
        unfold X7_way_b77 at hm
        have b90 : ∀ (x1 : Int32) (x3 : Int32) (x4 : Int32) (x5 : Int32) (x6 : Int32) (t0 : Int32) (S : ZS) (H : Heap) (locs : List Loc) (ls : Array Slot), X7_way_b90 x1 x3 x4 x5 x6 t0 S Q k31 → va_P D vwCl (zWS k a S) H → va_S (zA a s.heap.size) s.heap H locs → lv_has ls 7 [(0, .ref (a 61)), (1, .int x1), (3, .int x3), (4, .int x4), (5, .int x5), (6, .int x6)] → zWi p l e (headSpec wsX7_way rm_X7_way).room s m ([.ref (a 61)] : List Value) below meth c D k a Q H locs (F0 m 90 ls [.int t0]) := by
          intro x1 x3 x4 x5 x6 t0 S H locs ls hm hP hS hl
          unfold X7_way_b90 at hm
          have b103 : ∀ (x1 : Int32) (x2 : Int32) (x4 : Int32) (x5 : Int32) (x6 : Int32) (t0 : Int32) (S : ZS) (H : Heap) (locs : List Loc) (ls : Array Slot), X7_way_b103 x1 x2 x4 x5 x6 t0 S Q k31 → va_P D vwCl (zWS k a S) H → va_S (zA a s.heap.size) s.heap H locs → lv_has ls 7 [(0, .ref (a 61)), (1, .int x1), (2, .int x2), (4, .int x4), (5, .int x5), (6, .int x6)] → zWi p l e (headSpec wsX7_way rm_X7_way).room s m ([.ref (a 61)] : List Value) below meth c D k a Q H locs (F0 m 103 ls [.int t0]) := by
            intro x1 x2 x4 x5 x6 t0 S H locs ls hm hP hS hl
            unfold X7_way_b103 at hm
            have b116 : ∀ (x1 : Int32) (x2 : Int32) (x3 : Int32) (x5 : Int32) (t0 : Int32) (t1 : Int32) (S : ZS) (H : Heap) (locs : List Loc) (ls : Array Slot), X7_way_b116 x1 x2 x3 x5 t0 t1 S Q k31 → va_P D vwCl (zWS k a S) H → va_S (zA a s.heap.size) s.heap H locs → lv_has ls 7 [(0, .ref (a 61)), (1, .int x1), (2, .int x2), (3, .int x3), (5, .int x5)] → zWi p l e (headSpec wsX7_way rm_X7_way).room s m ([.ref (a 61)] : List Value) below meth c D k a Q H locs (F0 m 116 ls [.int t0, .int t1]) := by
              intro x1 x2 x3 x5 t0 t1 S H locs ls hm hP hS hl
              unfold X7_way_b116 at hm
              refine lv_iadd hx hb dX7_way_116 ?_
              refine lv_topi (fun x4_117 ex4_117 => ?_)
              have hm := hm x4_117 ex4_117
              refine lv_istore (lv' := [(4, .int x4_117), (0, .ref (a 61)), (1, .int x1), (2, .int x2), (3, .int x3), (5, .int x5)]) hx hb dX7_way_117 hl (by decide) rfl (fun ls hl => ?_)
              obtain ⟨x5_119, ex5_119⟩ : ∃ y : Int32, y = x5 + (1 : Int32) := ⟨_, rfl⟩
              have hm := hm x5_119 ex5_119
              refine lv_iinc (v := x5_119) (lv' := [(5, .int x5_119), (4, .int x4_117), (0, .ref (a 61)), (1, .int x1), (2, .int x2), (3, .int x3)]) hx hb dX7_way_119 hl (k := 5) rfl (by rw [ex5_119]; rfl) (by decide) rfl (fun ls hl => ?_)
              refine lv_goto (tgt := 31) hx hb dX7_way_122 (by decide) ?_
              exact ih31 x1 x2 x3 x4_117 x5_119 S _ _ _ hm hP hS (lv_sub hl [2, 3, 4, 5, 1, 0] rfl)
            refine lv_istore_n (lv' := [(3, .int t0), (0, .ref (a 61)), (1, .int x1), (2, .int x2), (4, .int x4), (5, .int x5), (6, .int x6)]) hx hb dX7_way_103 rfl hl (by decide) rfl (fun ls hl => ?_)
            refine lv_iload hx hb dX7_way_104 (lv_at hl 4 rfl) ?_
            refine lv_iload hx hb dX7_way_106 (lv_at hl 6 rfl) ?_
            refine lv_if_eq (tgt := 115) hx hb dX7_way_108 (by decide) (fun c_108 => ?_) (fun c_108 => ?_)
            · have hm := hm.1 c_108
              refine lv_iconst (v := (0 : Int32)) hx hb dX7_way_115 (by decide) ?_
              exact b116 x1 x2 t0 x5 (0 : Int32) x4 S _ _ _ hm hP hS (lv_sub hl [1, 2, 3, 0, 5] rfl)
            · have hm := hm.2 c_108
              refine lv_iconst (v := (1 : Int32)) hx hb dX7_way_111 (by decide) ?_
              refine lv_goto (tgt := 116) hx hb dX7_way_112 (by decide) ?_
              exact b116 x1 x2 t0 x5 (1 : Int32) x4 S _ _ _ hm hP hS (lv_sub hl [1, 2, 3, 0, 5] rfl)
          refine lv_istore_n (lv' := [(2, .int t0), (0, .ref (a 61)), (1, .int x1), (3, .int x3), (4, .int x4), (5, .int x5), (6, .int x6)]) hx hb dX7_way_90 rfl hl (by decide) rfl (fun ls hl => ?_)
          refine lv_iload hx hb dX7_way_91 (lv_at hl 6 rfl) ?_
          refine lv_iconst (v := (-1 : Int32)) hx hb dX7_way_93 (by decide) ?_
          refine lv_icmp_ne (tgt := 102) hx hb dX7_way_94 (by decide) (fun c_94 => ?_) (fun c_94 => ?_)
          · have hm := hm.2 c_94
            refine lv_iload_n hx hb dX7_way_102 rfl (lv_at hl 3 rfl) ?_
            exact b103 x1 t0 x4 x5 x6 x3 S _ _ _ hm hP hS (lv_sub hl [1, 2, 0, 4, 5, 6] rfl)
          · have hm := hm.1 c_94
            refine lv_iload hx hb dX7_way_97 (lv_at hl 5 rfl) ?_
            refine lv_goto (tgt := 103) hx hb dX7_way_99 (by decide) ?_
            exact b103 x1 t0 x4 x5 x6 x5 S _ _ _ hm hP hS (lv_sub hl [1, 2, 0, 4, 5, 6] rfl)
        refine lv_istore_n (lv' := [(1, .int t0), (0, .ref (a 61)), (2, .int x2), (3, .int x3), (4, .int x4), (5, .int x5), (6, .int x6)]) hx hb dX7_way_77 rfl hl (by decide) rfl (fun ls hl => ?_)
        refine lv_iload hx hb dX7_way_78 (lv_at hl 6 rfl) ?_
        refine lv_iconst (v := (1 : Int32)) hx hb dX7_way_80 (by decide) ?_
        refine lv_icmp_ne (tgt := 89) hx hb dX7_way_81 (by decide) (fun c_81 => ?_) (fun c_81 => ?_)
        · have hm := hm.2 c_81
          refine lv_iload_n hx hb dX7_way_89 rfl (lv_at hl 2 rfl) ?_
          exact b90 t0 x3 x4 x5 x6 x2 S _ _ _ hm hP hS (lv_sub hl [1, 0, 3, 4, 5, 6] rfl)
        · have hm := hm.1 c_81
          refine lv_iload hx hb dX7_way_84 (lv_at hl 5 rfl) ?_
          refine lv_goto (tgt := 90) hx hb dX7_way_86 (by decide) ?_
          exact b90 t0 x3 x4 x5 x6 x5 S _ _ _ hm hP hS (lv_sub hl [1, 0, 3, 4, 5, 6] rfl)
      have b76 : ∀ (x2 : Int32) (x3 : Int32) (x4 : Int32) (x5 : Int32) (x6 : Int32) (S : ZS) (H : Heap) (locs : List Loc) (ls : Array Slot), X7_way_b76 x2 x3 x4 x5 x6 S Q k31 → va_P D vwCl (zWS k a S) H → va_S (zA a s.heap.size) s.heap H locs → lv_has ls 7 [(0, .ref (a 61)), (2, .int x2), (3, .int x3), (4, .int x4), (5, .int x5), (6, .int x6)] → zWi p l e (headSpec wsX7_way rm_X7_way).room s m ([.ref (a 61)] : List Value) below meth c D k a Q H locs (F0 m 76 ls []) := by
        intro x2 x3 x4 x5 x6 S H locs ls hm hP hS hl
        unfold X7_way_b76 at hm
        refine lv_iconst (v := (0 : Int32)) hx hb dX7_way_76 (by decide) ?_
        exact b77 x2 x3 x4 x5 x6 (0 : Int32) S _ _ _ hm hP hS (lv_sub hl [0, 1, 2, 3, 4, 5] rfl)
      refine lv_iload hx hb dX7_way_31 (lv_at hl 5 rfl) ?_
      refine lv_aload_n hx hb dX7_way_33 rfl (lv_at hl 0 rfl) ?_
      refine zg_7_rows hx hb hts i7 hown hK hP (hts _ (List.mem_of_getElem? (i := 2) rfl)) dX7_way_34 ?_
      refine lv_icmp_ge (tgt := 125) hx hb dX7_way_37 (by decide) (fun c_37 => ?_) (fun c_37 => ?_)
      · have hm := hm.1 c_37
        exact b125 x1 x2 x3 x4 S _ _ _ hm hP hS (lv_sub hl [0, 1, 2, 3, 4] rfl)
      · have hm := hm.2 c_37
        refine lv_aload_n hx hb dX7_way_40 rfl (lv_at hl 0 rfl) ?_
        refine zg_7_rights hx hb hts i7 hown hK hP (hts _ (List.mem_of_getElem? (i := 3) rfl)) dX7_way_41 ?_
        refine lv_iload hx hb dX7_way_44 (lv_at hl 5 rfl) ?_
        obtain ⟨h_46, hm⟩ := hm
        refine z_iald hx hb hK hP zI_66 h_46 dX7_way_46 ?_
        refine lv_aload_n hx hb dX7_way_47 rfl (lv_at hl 0 rfl) ?_
        refine zg_7_signs hx hb hts i7 hown hK hP (hts _ (List.mem_of_getElem? (i := 4) rfl)) dX7_way_48 ?_
        refine lv_iload hx hb dX7_way_51 (lv_at hl 5 rfl) ?_
        obtain ⟨h_53, hm⟩ := hm
        refine z_iald hx hb hK hP zI_71 h_53 dX7_way_53 ?_
        refine lv_imul hx hb dX7_way_54 ?_
        refine lv_topi (fun x6_55 ex6_55 => ?_)
        have hm := hm x6_55 ex6_55
        refine lv_istore (lv' := [(6, .int x6_55), (0, .ref (a 61)), (1, .int x1), (2, .int x2), (3, .int x3), (4, .int x4), (5, .int x5)]) hx hb dX7_way_55 hl (by decide) rfl (fun ls hl => ?_)
        refine lv_iload_n hx hb dX7_way_57 rfl (lv_at hl 2 rfl) ?_
        refine lv_if_eq (tgt := 76) hx hb dX7_way_58 (by decide) (fun c_58 => ?_) (fun c_58 => ?_)
        · have hm := hm.1 c_58
          exact b76 x2 x3 x4 x5 x6_55 S _ _ _ hm hP hS (lv_sub hl [1, 3, 4, 5, 6, 0] rfl)
        · have hm := hm.2 c_58
          refine lv_aload_n hx hb dX7_way_61 rfl (lv_at hl 1 rfl) ?_
          refine zg_7_kinds hx hb hts i7 hown hK hP (hts _ (List.mem_of_getElem? (i := 5) rfl)) dX7_way_62 ?_
          refine lv_iload hx hb dX7_way_65 (lv_at hl 6 rfl) ?_
          obtain ⟨h_67, hm⟩ := hm
          refine z_iald hx hb hK hP zI_65 h_67 dX7_way_67 ?_
          refine lv_iconst (v := (1 : Int32)) hx hb dX7_way_68 (by decide) ?_
          refine lv_icmp_ne (tgt := 76) hx hb dX7_way_69 (by decide) (fun c_69 => ?_) (fun c_69 => ?_)
          · have hm := hm.2 c_69
            exact b76 x2 x3 x4 x5 x6_55 S _ _ _ hm hP hS (lv_sub hl [1, 3, 4, 5, 6, 0] rfl)
          · have hm := hm.1 c_69
            refine lv_iconst (v := (1 : Int32)) hx hb dX7_way_72 (by decide) ?_
            refine lv_goto (tgt := 77) hx hb dX7_way_73 (by decide) ?_
            exact b77 x2 x3 x4 x5 x6_55 (1 : Int32) S _ _ _ hm hP hS (lv_sub hl [1, 3, 4, 5, 6, 0] rfl)
  unfold X7_way at hm
  refine lv_aload_n hx hb dX7_way_0 rfl (lv_at hl 0 rfl) ?_
  refine lv_iconst (v := (0 : Int32)) hx hb dX7_way_1 (by decide) ?_
  refine zp_7_thrown hx hb hts i7 hown hj hK hP hS (hts _ (List.mem_of_getElem? (i := 1) rfl)) dX7_way_2 (fun H locs hP hS => ?_)
  obtain ⟨S_2, eS_2⟩ : ∃ z : ZS, z = zu S 61 0 (0 : Int32) := ⟨_, rfl⟩
  rw [← eS_2] at hP
  have hm := hm S_2 eS_2
  refine lv_aload_n hx hb dX7_way_5 rfl (lv_at hl 0 rfl) ?_
  refine z_cVi (As := []) (rest := []) hF hK hP hS zO_61 rfl rfl (c_X7_flowReason l D k a hj  S_2 _ hm _) (cwV 0 hts gX7_way_X7_flowReason rfl rfl rfl (by decide +kernel) ⟨Nat.le_of_ble_eq_true rfl, Nat.le_of_ble_eq_true rfl⟩) rfl hl.1 rfl (Nat.le_of_ble_eq_true rfl) dX7_way_6 ⟨Nat.zero_le _, Nat.zero_le _⟩ (fun r_6 S_6 H locs hm hP hS => ?_)
  refine lv_iconst (v := (-1 : Int32)) hx hb dX7_way_9 (by decide) ?_
  refine lv_icmp_eq (tgt := 15) hx hb dX7_way_10 (by decide) (fun c_10 => ?_) (fun c_10 => ?_)
  · have hm := hm.1 c_10
    refine lv_aload_n hx hb dX7_way_15 rfl (lv_at hl 0 rfl) ?_
    refine z_cVv (As := []) (rest := []) hF hK hP hS zO_61 rfl rfl (c_X7_findSigns l D k a hj  S_6 _ hm _) (cwV 0 hts gX7_way_X7_findSigns rfl rfl rfl (by decide +kernel) ⟨Nat.le_of_ble_eq_true rfl, Nat.le_of_ble_eq_true rfl⟩) rfl hl.1 rfl (Nat.le_of_ble_eq_true rfl) dX7_way_16 ⟨Nat.zero_le _, Nat.zero_le _⟩ (fun S_16 H locs hm hP hS => ?_)
    refine lv_iconst (v := (1 : Int32)) hx hb dX7_way_19 (by decide) ?_
    refine lv_istore_n (lv' := [(1, .int (1 : Int32)), (0, .ref (a 61))]) hx hb dX7_way_20 rfl hl (by decide) rfl (fun ls hl => ?_)
    refine lv_iconst (v := (-1 : Int32)) hx hb dX7_way_21 (by decide) ?_
    refine lv_istore_n (lv' := [(2, .int (-1 : Int32)), (1, .int (1 : Int32)), (0, .ref (a 61))]) hx hb dX7_way_22 rfl hl (by decide) rfl (fun ls hl => ?_)
    refine lv_iconst (v := (-1 : Int32)) hx hb dX7_way_23 (by decide) ?_
    refine lv_istore_n (lv' := [(3, .int (-1 : Int32)), (2, .int (-1 : Int32)), (1, .int (1 : Int32)), (0, .ref (a 61))]) hx hb dX7_way_24 rfl hl (by decide) rfl (fun ls hl => ?_)
    refine lv_iconst (v := (0 : Int32)) hx hb dX7_way_25 (by decide) ?_
    refine lv_istore (lv' := [(4, .int (0 : Int32)), (3, .int (-1 : Int32)), (2, .int (-1 : Int32)), (1, .int (1 : Int32)), (0, .ref (a 61))]) hx hb dX7_way_26 hl (by decide) rfl (fun ls hl => ?_)
    refine lv_iconst (v := (0 : Int32)) hx hb dX7_way_28 (by decide) ?_
    refine lv_istore (lv' := [(5, .int (0 : Int32)), (4, .int (0 : Int32)), (3, .int (-1 : Int32)), (2, .int (-1 : Int32)), (1, .int (1 : Int32)), (0, .ref (a 61))]) hx hb dX7_way_29 hl (by decide) rfl (fun ls hl => ?_)
    obtain ⟨n31, hm⟩ := hm
    exact L31 n31 (1 : Int32) (-1 : Int32) (-1 : Int32) (0 : Int32) (0 : Int32) S_16 _ _ _ hm hP hS (lv_sub hl [5, 4, 3, 2, 1, 0] rfl)
  · have hm := hm.2 c_10
    refine lv_iconst (v := (0 : Int32)) hx hb dX7_way_13 (by decide) ?_
    exact z_retz hx hb hr hlocks hP hS hm dX7_way_14

abbrev rm_X7_begin : Room := { frames := 0, cells := 0, slots := 0, locals := 0 }
def X7_begin_b68 (S : ZS) (Q : ZS → Prop) : Prop :=
  Q S
def X7_begin_B42 (x1 : Int32) (S : ZS) (Q : ZS → Prop) (k42 : Int32 × ZS → Prop) : Prop :=
  ((S.1 61 2) ≤ x1 → X7_begin_b68 S Q) ∧ (¬ (S.1 61 2) ≤ x1 → vp_in x1 8 ∧ vp_in x1 8 ∧ ∀ S_61 : ZS, S_61 = zu S 74 (x1).toNatClampNeg (S.1 65 (x1).toNatClampNeg) → ∀ x1_62 : Int32, x1_62 = x1 + (1 : Int32) → k42 (x1_62, S_61))
def X7_begin_L42 (Q : ZS → Prop) : (Int32 × ZS) → ((Int32 × ZS) → Prop) → Prop := fun st k42 => X7_begin_B42 st.1 st.2 Q k42
def X7_begin_b40 (S : ZS) (Q : ZS → Prop) : Prop :=
  zl (X7_begin_L42 Q) ((0 : Int32), S)
def X7_begin_B2 (x1 : Int32) (S : ZS) (Q : ZS → Prop) (k2 : Int32 × ZS → Prop) : Prop :=
  ((S.1 61 1) ≤ x1 → X7_begin_b40 S Q) ∧ (¬ (S.1 61 1) ≤ x1 → vp_in x1 10 ∧ vp_in x1 10 ∧ ∀ S_21 : ZS, S_21 = zu S 72 (x1).toNatClampNeg (S.1 62 (x1).toNatClampNeg) → vp_in x1 10 ∧ vp_in x1 10 ∧ ∀ S_33 : ZS, S_33 = zu S_21 73 (x1).toNatClampNeg (S_21.1 63 (x1).toNatClampNeg) → ∀ x1_34 : Int32, x1_34 = x1 + (1 : Int32) → k2 (x1_34, S_33))
def X7_begin_L2 (Q : ZS → Prop) : (Int32 × ZS) → ((Int32 × ZS) → Prop) → Prop := fun st k2 => X7_begin_B2 st.1 st.2 Q k2
def X7_begin (S : ZS) (Q : ZS → Prop) : Prop :=
  zl (X7_begin_L2 Q) ((0 : Int32), S)
set_option maxHeartbeats 4000000 in
set_option maxRecDepth 100000 in
theorem c_X7_begin (l : Launch) (D : va_G) (k : Nat → ClassId) (a : Nat → Nat) (hj : zDj a) (S : ZS) (Q : ZS → Prop) (hm : X7_begin S Q) (sz : Nat) : Met l yX7_begin wsX7_begin rm_X7_begin (zPc D k a [.ref (a 61)] S sz) (va_Qv Q (zB D k a) (zA a sz)) 0 0 (zA a sz) := by
  refine Met.ofW (cc := cX7_begin) (maxL := 2) (ret := none) (by decide) rfl ?_
  intro p e s m args below meth c s₁ B hml hv
  obtain ⟨rfl, hsz, hP, hK⟩ := hv
  have hx := B.exec
  have hb := B.bytes
  have hr := B.returns
  have hts := atoms_spec (ws := wsX7_begin) B.pre
  have hown : s.vm.findClass RX7 = some m.cls := findClass_of_methodNamed B.named
  have hlocks := B.notSynchronized
  subst hsz
  have hS : va_S (zA a s.heap.size) s.heap s.heap [] := va_S.rf
  have hF : CallFix p m c cX7_begin 2 s _ wsX7_begin RX7 := ⟨hx, hb, hml, hown, hts⟩
  have i7 : ∀ w ∈ wsX70, w ∈ wsX7_begin := fun _ h => (List.mem_cons_of_mem _ (List.mem_append_right _ h))
  have hl := lv_entry ([.ref (a 61)]) (n := 2) (Nat.le_of_ble_eq_true rfl)
  rw [lg_entry_eq]
  generalize (lg_sl ([.ref (a 61)]) ++ List.replicate (2 - (lg_sl ([.ref (a 61)])).length) Slot.unset).toArray = ls at hl ⊢
  have hl : lv_has ls 2 [(0, .ref (a 61))] := hl
  have b40 : ∀ (S : ZS) (H : Heap) (locs : List Loc) (ls : Array Slot), X7_begin_b40 S Q → va_P D vwCl (zWS k a S) H → va_S (zA a s.heap.size) s.heap H locs → lv_has ls 2 [(0, .ref (a 61))] → zWv p l e (headSpec wsX7_begin rm_X7_begin).room s m ([.ref (a 61)] : List Value) below meth c D k a Q H locs (F0 m 40 ls []) := by
    intro S H locs ls hm hP hS hl
    unfold X7_begin_b40 at hm
    have b68 : ∀ (S : ZS) (H : Heap) (locs : List Loc) (ls : Array Slot), X7_begin_b68 S Q → va_P D vwCl (zWS k a S) H → va_S (zA a s.heap.size) s.heap H locs → lv_has ls 2 [(0, .ref (a 61))] → zWv p l e (headSpec wsX7_begin rm_X7_begin).room s m ([.ref (a 61)] : List Value) below meth c D k a Q H locs (F0 m 68 ls []) := by
      intro S H locs ls hm hP hS hl
      unfold X7_begin_b68 at hm
      exact z_retv hx hb hr hlocks hP hS hm dX7_begin_68
    have L42 : ∀ (n : Nat) (x1 : Int32) (S : ZS) (H : Heap) (locs : List Loc) (ls : Array Slot), zn (X7_begin_L42 Q) n (x1, S) → va_P D vwCl (zWS k a S) H → va_S (zA a s.heap.size) s.heap H locs → lv_has ls 2 [(0, .ref (a 61)), (1, .int x1)] → zWv p l e (headSpec wsX7_begin rm_X7_begin).room s m ([.ref (a 61)] : List Value) below meth c D k a Q H locs (F0 m 42 ls []) := by
      intro n
      induction n with
      | zero =>
        intro x1 S H locs ls hm
        exact hm.elim
      | succ n ih42 =>
        intro x1 S H locs ls hm hP hS hl
        have hm : X7_begin_B42 x1 S Q (zn (X7_begin_L42 Q) n) := hm
        generalize zn (X7_begin_L42 Q) n = k42 at hm ih42
        unfold X7_begin_B42 at hm
        refine lv_iload_n hx hb dX7_begin_42 rfl (lv_at hl 1 rfl) ?_
        refine lv_aload_n hx hb dX7_begin_43 rfl (lv_at hl 0 rfl) ?_
        refine zg_7_rows hx hb hts i7 hown hK hP (hts _ (List.mem_of_getElem? (i := 6) rfl)) dX7_begin_44 ?_
        refine lv_icmp_ge (tgt := 68) hx hb dX7_begin_47 (by decide) (fun c_47 => ?_) (fun c_47 => ?_)
        · have hm := hm.1 c_47
          exact b68  S _ _ _ hm hP hS (lv_sub hl [0] rfl)
        · have hm := hm.2 c_47
          refine lv_aload_n hx hb dX7_begin_50 rfl (lv_at hl 0 rfl) ?_
          refine zg_7_kind hx hb hts i7 hown hK hP (hts _ (List.mem_of_getElem? (i := 7) rfl)) dX7_begin_51 ?_
          refine lv_iload_n hx hb dX7_begin_54 rfl (lv_at hl 1 rfl) ?_
          refine lv_aload_n hx hb dX7_begin_55 rfl (lv_at hl 0 rfl) ?_
          refine zg_7_kinds hx hb hts i7 hown hK hP (hts _ (List.mem_of_getElem? (i := 8) rfl)) dX7_begin_56 ?_
          refine lv_iload_n hx hb dX7_begin_59 rfl (lv_at hl 1 rfl) ?_
          obtain ⟨h_60, hm⟩ := hm
          refine z_iald hx hb hK hP zI_65 h_60 dX7_begin_60 ?_
          obtain ⟨h_61, hm⟩ := hm
          refine z_iast hx hb hj hK hP hS zI_74 h_61 dX7_begin_61 (fun H locs hP hS => ?_)
          obtain ⟨S_61, eS_61⟩ : ∃ z : ZS, z = zu S 74 (x1).toNatClampNeg (S.1 65 (x1).toNatClampNeg) := ⟨_, rfl⟩
          rw [← eS_61] at hP
          have hm := hm S_61 eS_61
          obtain ⟨x1_62, ex1_62⟩ : ∃ y : Int32, y = x1 + (1 : Int32) := ⟨_, rfl⟩
          have hm := hm x1_62 ex1_62
          refine lv_iinc (v := x1_62) (lv' := [(1, .int x1_62), (0, .ref (a 61))]) hx hb dX7_begin_62 hl (k := 1) rfl (by rw [ex1_62]; rfl) (by decide) rfl (fun ls hl => ?_)
          refine lv_goto (tgt := 42) hx hb dX7_begin_65 (by decide) ?_
          exact ih42 x1_62 S_61 _ _ _ hm hP hS (lv_sub hl [1, 0] rfl)
    refine lv_iconst (v := (0 : Int32)) hx hb dX7_begin_40 (by decide) ?_
    refine lv_istore_n (lv' := [(1, .int (0 : Int32)), (0, .ref (a 61))]) hx hb dX7_begin_41 rfl hl (by decide) rfl (fun ls hl => ?_)
    obtain ⟨n42, hm⟩ := hm
    exact L42 n42 (0 : Int32) S _ _ _ hm hP hS (lv_sub hl [1, 0] rfl)
  have L2 : ∀ (n : Nat) (x1 : Int32) (S : ZS) (H : Heap) (locs : List Loc) (ls : Array Slot), zn (X7_begin_L2 Q) n (x1, S) → va_P D vwCl (zWS k a S) H → va_S (zA a s.heap.size) s.heap H locs → lv_has ls 2 [(0, .ref (a 61)), (1, .int x1)] → zWv p l e (headSpec wsX7_begin rm_X7_begin).room s m ([.ref (a 61)] : List Value) below meth c D k a Q H locs (F0 m 2 ls []) := by
    intro n
    induction n with
    | zero =>
      intro x1 S H locs ls hm
      exact hm.elim
    | succ n ih2 =>
      intro x1 S H locs ls hm hP hS hl
      have hm : X7_begin_B2 x1 S Q (zn (X7_begin_L2 Q) n) := hm
      generalize zn (X7_begin_L2 Q) n = k2 at hm ih2
      unfold X7_begin_B2 at hm
      refine lv_iload_n hx hb dX7_begin_2 rfl (lv_at hl 1 rfl) ?_
      refine lv_aload_n hx hb dX7_begin_3 rfl (lv_at hl 0 rfl) ?_
      refine zg_7_columns hx hb hts i7 hown hK hP (hts _ (List.mem_of_getElem? (i := 1) rfl)) dX7_begin_4 ?_
      refine lv_icmp_ge (tgt := 40) hx hb dX7_begin_7 (by decide) (fun c_7 => ?_) (fun c_7 => ?_)
      · have hm := hm.1 c_7
        exact b40  S _ _ _ hm hP hS (lv_sub hl [0] rfl)
      · have hm := hm.2 c_7
        refine lv_aload_n hx hb dX7_begin_10 rfl (lv_at hl 0 rfl) ?_
        refine zg_7_low hx hb hts i7 hown hK hP (hts _ (List.mem_of_getElem? (i := 2) rfl)) dX7_begin_11 ?_
        refine lv_iload_n hx hb dX7_begin_14 rfl (lv_at hl 1 rfl) ?_
        refine lv_aload_n hx hb dX7_begin_15 rfl (lv_at hl 0 rfl) ?_
        refine zg_7_lows hx hb hts i7 hown hK hP (hts _ (List.mem_of_getElem? (i := 3) rfl)) dX7_begin_16 ?_
        refine lv_iload_n hx hb dX7_begin_19 rfl (lv_at hl 1 rfl) ?_
        obtain ⟨h_20, hm⟩ := hm
        refine z_iald hx hb hK hP zI_62 h_20 dX7_begin_20 ?_
        obtain ⟨h_21, hm⟩ := hm
        refine z_iast hx hb hj hK hP hS zI_72 h_21 dX7_begin_21 (fun H locs hP hS => ?_)
        obtain ⟨S_21, eS_21⟩ : ∃ z : ZS, z = zu S 72 (x1).toNatClampNeg (S.1 62 (x1).toNatClampNeg) := ⟨_, rfl⟩
        rw [← eS_21] at hP
        have hm := hm S_21 eS_21
        refine lv_aload_n hx hb dX7_begin_22 rfl (lv_at hl 0 rfl) ?_
        refine zg_7_high hx hb hts i7 hown hK hP (hts _ (List.mem_of_getElem? (i := 4) rfl)) dX7_begin_23 ?_
        refine lv_iload_n hx hb dX7_begin_26 rfl (lv_at hl 1 rfl) ?_
        refine lv_aload_n hx hb dX7_begin_27 rfl (lv_at hl 0 rfl) ?_
        refine zg_7_highs hx hb hts i7 hown hK hP (hts _ (List.mem_of_getElem? (i := 5) rfl)) dX7_begin_28 ?_
        refine lv_iload_n hx hb dX7_begin_31 rfl (lv_at hl 1 rfl) ?_
        obtain ⟨h_32, hm⟩ := hm
        refine z_iald hx hb hK hP zI_63 h_32 dX7_begin_32 ?_
        obtain ⟨h_33, hm⟩ := hm
        refine z_iast hx hb hj hK hP hS zI_73 h_33 dX7_begin_33 (fun H locs hP hS => ?_)
        obtain ⟨S_33, eS_33⟩ : ∃ z : ZS, z = zu S_21 73 (x1).toNatClampNeg (S_21.1 63 (x1).toNatClampNeg) := ⟨_, rfl⟩
        rw [← eS_33] at hP
        have hm := hm S_33 eS_33
        obtain ⟨x1_34, ex1_34⟩ : ∃ y : Int32, y = x1 + (1 : Int32) := ⟨_, rfl⟩
        have hm := hm x1_34 ex1_34
        refine lv_iinc (v := x1_34) (lv' := [(1, .int x1_34), (0, .ref (a 61))]) hx hb dX7_begin_34 hl (k := 1) rfl (by rw [ex1_34]; rfl) (by decide) rfl (fun ls hl => ?_)
        refine lv_goto (tgt := 2) hx hb dX7_begin_37 (by decide) ?_
        exact ih2 x1_34 S_33 _ _ _ hm hP hS (lv_sub hl [1, 0] rfl)
  unfold X7_begin at hm
  refine lv_iconst (v := (0 : Int32)) hx hb dX7_begin_0 (by decide) ?_
  refine lv_istore_n (lv' := [(1, .int (0 : Int32)), (0, .ref (a 61))]) hx hb dX7_begin_1 rfl hl (by decide) rfl (fun ls hl => ?_)
  obtain ⟨n2, hm⟩ := hm
  exact L2 n2 (0 : Int32) S _ _ _ hm hP hS (lv_sub hl [1, 0] rfl)

abbrev rm_X7_shows : Room := { frames := 1, cells := 0, slots := 0, locals := 22 }
def X7_shows_b201 (t0 : Int32) (S : ZS) (Q : Int32 → ZS → Prop) : Prop :=
  zbit t0 ∧ Q t0 S
def X7_shows_b189 (x3 : Int64) (x5 : Int64) (S : ZS) (Q : Int32 → ZS → Prop) : Prop :=
  ((lg_cmp x5 x3) ≤ 0 → X7_shows_b201 (0 : Int32) S Q) ∧ (¬ (lg_cmp x5 x3) ≤ 0 → X7_shows_b201 (1 : Int32) S Q)
def X7_shows_b178 (x1 : Int32) (x2 : Int32) (x3 : Int64) (x7 : Int32) (t0 : Int32) (t1 : Int64) (t2 : Int64) (S : ZS) (Q : Int32 → ZS → Prop) (k84 : Int64 × Int32 × ZS → Prop) : Prop :=
  ∀ x5_181 : Int64, x5_181 = (t2 + (t1 * (Int32.toInt64 t0))) → ∀ x7_183 : Int32, x7_183 = x7 + (1 : Int32) → k84 (x5_181, x7_183, S)
def X7_shows_b151 (x1 : Int32) (x2 : Int32) (x3 : Int64) (x5 : Int64) (x7 : Int32) (x8 : Int32) (S : ZS) (Q : Int32 → ZS → Prop) (k84 : Int64 × Int32 × ZS → Prop) : Prop :=
  (x8 ≤ 0 → vp_in x7 10 ∧ X7_shows_b178 x1 x2 x3 x7 (S.1 73 (x7).toNatClampNeg) (Int32.toInt64 x8) x5 S Q k84) ∧ (¬ x8 ≤ 0 → vp_in x7 10 ∧ X7_shows_b178 x1 x2 x3 x7 (S.1 72 (x7).toNatClampNeg) (Int32.toInt64 x8) x5 S Q k84)
def X7_shows_b142 (x1 : Int32) (x2 : Int32) (x3 : Int64) (x5 : Int64) (x7 : Int32) (x9 : Int32) (t0 : Int32) (t1 : Int32) (S : ZS) (Q : Int32 → ZS → Prop) (k84 : Int64 × Int32 × ZS → Prop) (k99 : Int32 × Int32 × ZS → Prop) : Prop :=
  ∀ x8_143 : Int32, x8_143 = (t1 + t0) → ∀ x9_145 : Int32, x9_145 = x9 + (1 : Int32) → k99 (x8_143, x9_145, S)
def X7_shows_B99 (x1 : Int32) (x2 : Int32) (x3 : Int64) (x5 : Int64) (x7 : Int32) (x8 : Int32) (x9 : Int32) (S : ZS) (Q : Int32 → ZS → Prop) (k84 : Int64 × Int32 × ZS → Prop) (k99 : Int32 × Int32 × ZS → Prop) : Prop :=
  ((S.1 61 2) ≤ x9 → X7_shows_b151 x1 x2 x3 x5 x7 x8 S Q k84) ∧ (¬ (S.1 61 2) ≤ x9 → (((x1 >>> (x9 &&& 31)) &&& (1 : Int32)) = (1 : Int32) → X7_coef x9 x7 S (fun r_125 S_125 => vp_in x9 8 ∧ X7_shows_b142 x1 x2 x3 x5 x7 x9 ((r_125 * (S_125.1 71 (x9).toNatClampNeg)) * x2) x8 S_125 Q k84 k99)) ∧ (¬ ((x1 >>> (x9 &&& 31)) &&& (1 : Int32)) = (1 : Int32) → X7_shows_b142 x1 x2 x3 x5 x7 x9 (0 : Int32) x8 S Q k84 k99))
def X7_shows_L99 (x1 : Int32) (x2 : Int32) (x3 : Int64) (x5 : Int64) (x7 : Int32) (Q : Int32 → ZS → Prop) (k84 : Int64 × Int32 × ZS → Prop) : (Int32 × Int32 × ZS) → ((Int32 × Int32 × ZS) → Prop) → Prop := fun st k99 => X7_shows_B99 x1 x2 x3 x5 x7 st.1 st.2.1 st.2.2 Q k84 k99
def X7_shows_B84 (x1 : Int32) (x2 : Int32) (x3 : Int64) (x5 : Int64) (x7 : Int32) (S : ZS) (Q : Int32 → ZS → Prop) (k84 : Int64 × Int32 × ZS → Prop) : Prop :=
  ((S.1 61 1) ≤ x7 → X7_shows_b189 x3 x5 S Q) ∧ (¬ (S.1 61 1) ≤ x7 → zl (X7_shows_L99 x1 x2 x3 x5 x7 Q k84) ((0 : Int32), (0 : Int32), S))
def X7_shows_L84 (x1 : Int32) (x2 : Int32) (x3 : Int64) (Q : Int32 → ZS → Prop) : (Int64 × Int32 × ZS) → ((Int64 × Int32 × ZS) → Prop) → Prop := fun st k84 => X7_shows_B84 x1 x2 x3 st.1 st.2.1 st.2.2 Q k84
def X7_shows_b78 (x1 : Int32) (x2 : Int32) (x3 : Int64) (S : ZS) (Q : Int32 → ZS → Prop) : Prop :=
  zl (X7_shows_L84 x1 x2 x3 Q) ((0 : Int64), (0 : Int32), S)
def X7_shows_b72 (x1 : Int32) (x2 : Int32) (x3 : Int64) (x5 : Int32) (S : ZS) (Q : Int32 → ZS → Prop) (k5 : Int64 × Int32 × ZS → Prop) : Prop :=
  ∀ x5_72 : Int32, x5_72 = x5 + (1 : Int32) → k5 (x3, x5_72, S)
def X7_shows_b49 (x1 : Int32) (x2 : Int32) (x3 : Int64) (x5 : Int32) (S : ZS) (Q : Int32 → ZS → Prop) (k5 : Int64 × Int32 × ZS → Prop) : Prop :=
  vp_in x5 8 ∧ vp_in x5 8 ∧ ∀ x3_71 : Int64, x3_71 = (x3 + (((Int32.toInt64 (S.1 66 (x5).toNatClampNeg)) * (Int32.toInt64 (S.1 71 (x5).toNatClampNeg))) * (Int32.toInt64 x2))) → X7_shows_b72 x1 x2 x3_71 x5 S Q k5
def X7_shows_b47 (S : ZS) (Q : Int32 → ZS → Prop) : Prop :=
  zbit (0 : Int32) ∧ Q (0 : Int32) S
def X7_shows_B5 (x1 : Int32) (x2 : Int32) (x3 : Int64) (x5 : Int32) (S : ZS) (Q : Int32 → ZS → Prop) (k5 : Int64 × Int32 × ZS → Prop) : Prop :=
  ((S.1 61 2) ≤ x5 → X7_shows_b78 x1 x2 x3 S Q) ∧ (¬ (S.1 61 2) ≤ x5 → (((x1 >>> (x5 &&& 31)) &&& (1 : Int32)) = (1 : Int32) → vp_in x5 8 ∧ ((S.1 74 (x5).toNatClampNeg) = 0 → vp_in x5 8 ∧ (((S.1 71 (x5).toNatClampNeg) * x2) = (1 : Int32) → X7_shows_b49 x1 x2 x3 x5 S Q k5) ∧ (¬ ((S.1 71 (x5).toNatClampNeg) * x2) = (1 : Int32) → X7_shows_b47 S Q)) ∧ (¬ (S.1 74 (x5).toNatClampNeg) = 0 → X7_shows_b49 x1 x2 x3 x5 S Q k5)) ∧ (¬ ((x1 >>> (x5 &&& 31)) &&& (1 : Int32)) = (1 : Int32) → X7_shows_b72 x1 x2 x3 x5 S Q k5))
def X7_shows_L5 (x1 : Int32) (x2 : Int32) (Q : Int32 → ZS → Prop) : (Int64 × Int32 × ZS) → ((Int64 × Int32 × ZS) → Prop) → Prop := fun st k5 => X7_shows_B5 x1 x2 st.1 st.2.1 st.2.2 Q k5
def X7_shows (y1 : Int32) (y2 : Int32) (S : ZS) (Q : Int32 → ZS → Prop) : Prop :=
  zl (X7_shows_L5 y1 y2 Q) ((0 : Int64), (0 : Int32), S)
set_option maxHeartbeats 4000000 in
set_option maxRecDepth 100000 in
theorem c_X7_shows (l : Launch) (D : va_G) (k : Nat → ClassId) (a : Nat → Nat) (hj : zDj a) (y1 : Int32) (y2 : Int32) (S : ZS) (Q : Int32 → ZS → Prop) (hm : X7_shows y1 y2 S Q) (sz : Nat) : Met l yX7_shows wsX7_shows rm_X7_shows (zPc D k a [.ref (a 61), .int y1, .int y2] S sz) (va_Qi Q (zB D k a) (zA a sz)) 0 0 (zA a sz) := by
  refine Met.ofW (cc := cX7_shows) (maxL := 10) (ret := (some .boolean)) (by decide) rfl ?_
  intro p e s m args below meth c s₁ B hml hv
  obtain ⟨rfl, hsz, hP, hK⟩ := hv
  have hx := B.exec
  have hb := B.bytes
  have hr := B.returns
  have hts := atoms_spec (ws := wsX7_shows) B.pre
  have hown : s.vm.findClass RX7 = some m.cls := findClass_of_methodNamed B.named
  have hlocks := B.notSynchronized
  subst hsz
  have hS : va_S (zA a s.heap.size) s.heap s.heap [] := va_S.rf
  have hF : CallFix p m c cX7_shows 10 s _ wsX7_shows RX7 := ⟨hx, hb, hml, hown, hts⟩
  have i7 : ∀ w ∈ wsX70, w ∈ wsX7_shows := fun _ h => (List.mem_cons_of_mem _ (List.mem_append_right _ h))
  have hl := lv_entry ([.ref (a 61), .int y1, .int y2]) (n := 10) (Nat.le_of_ble_eq_true rfl)
  rw [lg_entry_eq]
  generalize (lg_sl ([.ref (a 61), .int y1, .int y2]) ++ List.replicate (10 - (lg_sl ([.ref (a 61), .int y1, .int y2])).length) Slot.unset).toArray = ls at hl ⊢
  have hl : lv_has ls 10 [(0, .ref (a 61)), (1, .int y1), (2, .int y2)] := hl
  have b78 : ∀ (x1 : Int32) (x2 : Int32) (x3 : Int64) (S : ZS) (H : Heap) (locs : List Loc) (ls : Array Slot), X7_shows_b78 x1 x2 x3 S Q → va_P D vwCl (zWS k a S) H → va_S (zA a s.heap.size) s.heap H locs → lv_has ls 10 [(0, .ref (a 61)), (1, .int x1), (2, .int x2), (3, .long x3)] → zWi p l e (headSpec wsX7_shows rm_X7_shows).room s m ([.ref (a 61), .int y1, .int y2] : List Value) below meth c D k a Q H locs (F0 m 78 ls []) := by
    intro x1 x2 x3 S H locs ls hm hP hS hl
    unfold X7_shows_b78 at hm
    have b189 : ∀ (x3 : Int64) (x5 : Int64) (S : ZS) (H : Heap) (locs : List Loc) (ls : Array Slot), X7_shows_b189 x3 x5 S Q → va_P D vwCl (zWS k a S) H → va_S (zA a s.heap.size) s.heap H locs → lv_has ls 10 [(0, .ref (a 61)), (3, .long x3), (5, .long x5)] → zWi p l e (headSpec wsX7_shows rm_X7_shows).room s m ([.ref (a 61), .int y1, .int y2] : List Value) below meth c D k a Q H locs (F0 m 189 ls []) := by
      intro x3 x5 S H locs ls hm hP hS hl
      unfold X7_shows_b189 at hm
      have b201 : ∀ (t0 : Int32) (S : ZS) (H : Heap) (locs : List Loc) (ls : Array Slot), X7_shows_b201 t0 S Q → va_P D vwCl (zWS k a S) H → va_S (zA a s.heap.size) s.heap H locs → lv_has ls 10 [(0, .ref (a 61))] → zWi p l e (headSpec wsX7_shows rm_X7_shows).room s m ([.ref (a 61), .int y1, .int y2] : List Value) below meth c D k a Q H locs (F0 m 201 ls [.int t0]) := by
        intro t0 S H locs ls hm hP hS hl
        unfold X7_shows_b201 at hm
        exact z_retz hx hb hr hlocks hP hS hm dX7_shows_201
      refine lv_lload hx hb dX7_shows_189 (lv_at hl 2 rfl) ?_
      refine lv_lload_n hx hb dX7_shows_191 rfl (lv_at hl 1 rfl) ?_
      refine W.lcmp hx hb dX7_shows_192 ?_
      refine lv_if_le (tgt := 200) hx hb dX7_shows_193 (by decide) (fun c_193 => ?_) (fun c_193 => ?_)
      · have hm := hm.1 c_193
        refine lv_iconst (v := (0 : Int32)) hx hb dX7_shows_200 (by decide) ?_
        exact b201 (0 : Int32) S _ _ _ hm hP hS (lv_sub hl [0] rfl)
      · have hm := hm.2 c_193
        refine lv_iconst (v := (1 : Int32)) hx hb dX7_shows_196 (by decide) ?_
        refine lv_goto (tgt := 201) hx hb dX7_shows_197 (by decide) ?_
        exact b201 (1 : Int32) S _ _ _ hm hP hS (lv_sub hl [0] rfl)
    have L84 : ∀ (x1 : Int32) (x2 : Int32) (x3 : Int64) (n : Nat) (x5 : Int64) (x7 : Int32) (S : ZS) (H : Heap) (locs : List Loc) (ls : Array Slot), zn (X7_shows_L84 x1 x2 x3 Q) n (x5, x7, S) → va_P D vwCl (zWS k a S) H → va_S (zA a s.heap.size) s.heap H locs → lv_has ls 10 [(0, .ref (a 61)), (1, .int x1), (2, .int x2), (3, .long x3), (5, .long x5), (7, .int x7)] → zWi p l e (headSpec wsX7_shows rm_X7_shows).room s m ([.ref (a 61), .int y1, .int y2] : List Value) below meth c D k a Q H locs (F0 m 84 ls []) := by
      intro x1 x2 x3 n
      induction n with
      | zero =>
        intro x5 x7 S H locs ls hm
        exact hm.elim
      | succ n ih84 =>
        intro x5 x7 S H locs ls hm hP hS hl
        have hm : X7_shows_B84 x1 x2 x3 x5 x7 S Q (zn (X7_shows_L84 x1 x2 x3 Q) n) := hm
        generalize zn (X7_shows_L84 x1 x2 x3 Q) n = k84 at hm ih84
        unfold X7_shows_B84 at hm
        have b151 : ∀ (x5 : Int64) (x7 : Int32) (x8 : Int32) (S : ZS) (H : Heap) (locs : List Loc) (ls : Array Slot), X7_shows_b151 x1 x2 x3 x5 x7 x8 S Q k84 → va_P D vwCl (zWS k a S) H → va_S (zA a s.heap.size) s.heap H locs → lv_has ls 10 [(0, .ref (a 61)), (1, .int x1), (2, .int x2), (3, .long x3), (5, .long x5), (7, .int x7), (8, .int x8)] → zWi p l e (headSpec wsX7_shows rm_X7_shows).room s m ([.ref (a 61), .int y1, .int y2] : List Value) below meth c D k a Q H locs (F0 m 151 ls []) := by
          intro x5 x7 x8 S H locs ls hm hP hS hl
          unfold X7_shows_b151 at hm
          have b178 : ∀ (x7 : Int32) (t0 : Int32) (t1 : Int64) (t2 : Int64) (S : ZS) (H : Heap) (locs : List Loc) (ls : Array Slot), X7_shows_b178 x1 x2 x3 x7 t0 t1 t2 S Q k84 → va_P D vwCl (zWS k a S) H → va_S (zA a s.heap.size) s.heap H locs → lv_has ls 10 [(0, .ref (a 61)), (1, .int x1), (2, .int x2), (3, .long x3), (7, .int x7)] → zWi p l e (headSpec wsX7_shows rm_X7_shows).room s m ([.ref (a 61), .int y1, .int y2] : List Value) below meth c D k a Q H locs (F0 m 178 ls [.int t0, .long t1, .long t2]) := by
            intro x7 t0 t1 t2 S H locs ls hm hP hS hl
            unfold X7_shows_b178 at hm
            refine lv_i2l hx hb dX7_shows_178 rfl ?_
            refine lv_lmul hx hb dX7_shows_179 ?_
            refine lv_ladd hx hb dX7_shows_180 ?_
            refine lv_topl (fun x5_181 ex5_181 => ?_)
            have hm := hm x5_181 ex5_181
            refine lv_lstore (lv' := [(5, .long x5_181), (0, .ref (a 61)), (1, .int x1), (2, .int x2), (3, .long x3), (7, .int x7)]) hx hb dX7_shows_181 hl (by decide) rfl (fun ls hl => ?_)
            obtain ⟨x7_183, ex7_183⟩ : ∃ y : Int32, y = x7 + (1 : Int32) := ⟨_, rfl⟩
            have hm := hm x7_183 ex7_183
            refine lv_iinc (v := x7_183) (lv' := [(7, .int x7_183), (5, .long x5_181), (0, .ref (a 61)), (1, .int x1), (2, .int x2), (3, .long x3)]) hx hb dX7_shows_183 hl (k := 5) rfl (by rw [ex7_183]; rfl) (by decide) rfl (fun ls hl => ?_)
            refine lv_goto (tgt := 84) hx hb dX7_shows_186 (by decide) ?_
            exact ih84 x5_181 x7_183 S _ _ _ hm hP hS (lv_sub hl [2, 3, 4, 5, 1, 0] rfl)
          refine lv_lload hx hb dX7_shows_151 (lv_at hl 4 rfl) ?_
          refine lv_iload hx hb dX7_shows_153 (lv_at hl 6 rfl) ?_
          refine lv_i2l hx hb dX7_shows_155 rfl ?_
          refine lv_iload hx hb dX7_shows_156 (lv_at hl 6 rfl) ?_
          refine lv_if_le (tgt := 171) hx hb dX7_shows_158 (by decide) (fun c_158 => ?_) (fun c_158 => ?_)
          · have hm := hm.1 c_158
            refine lv_aload_n hx hb dX7_shows_171 rfl (lv_at hl 0 rfl) ?_
            refine zg_7_high hx hb hts i7 hown hK hP (hts _ (List.mem_of_getElem? (i := 7) rfl)) dX7_shows_172 ?_
            refine lv_iload hx hb dX7_shows_175 (lv_at hl 5 rfl) ?_
            obtain ⟨h_177, hm⟩ := hm
            refine z_iald hx hb hK hP zI_73 h_177 dX7_shows_177 ?_
            exact b178 x7 (S.1 73 (x7).toNatClampNeg) (Int32.toInt64 x8) x5 S _ _ _ hm hP hS (lv_sub hl [0, 1, 2, 3, 5] rfl)
          · have hm := hm.2 c_158
            refine lv_aload_n hx hb dX7_shows_161 rfl (lv_at hl 0 rfl) ?_
            refine zg_7_low hx hb hts i7 hown hK hP (hts _ (List.mem_of_getElem? (i := 6) rfl)) dX7_shows_162 ?_
            refine lv_iload hx hb dX7_shows_165 (lv_at hl 5 rfl) ?_
            obtain ⟨h_167, hm⟩ := hm
            refine z_iald hx hb hK hP zI_72 h_167 dX7_shows_167 ?_
            refine lv_goto (tgt := 178) hx hb dX7_shows_168 (by decide) ?_
            exact b178 x7 (S.1 72 (x7).toNatClampNeg) (Int32.toInt64 x8) x5 S _ _ _ hm hP hS (lv_sub hl [0, 1, 2, 3, 5] rfl)
        have L99 : ∀ (x5 : Int64) (x7 : Int32) (n : Nat) (x8 : Int32) (x9 : Int32) (S : ZS) (H : Heap) (locs : List Loc) (ls : Array Slot), zn (X7_shows_L99 x1 x2 x3 x5 x7 Q k84) n (x8, x9, S) → va_P D vwCl (zWS k a S) H → va_S (zA a s.heap.size) s.heap H locs → lv_has ls 10 [(0, .ref (a 61)), (1, .int x1), (2, .int x2), (3, .long x3), (5, .long x5), (7, .int x7), (8, .int x8), (9, .int x9)] → zWi p l e (headSpec wsX7_shows rm_X7_shows).room s m ([.ref (a 61), .int y1, .int y2] : List Value) below meth c D k a Q H locs (F0 m 99 ls []) := by
          intro x5 x7 n
          induction n with
          | zero =>
            intro x8 x9 S H locs ls hm
            exact hm.elim
          | succ n ih99 =>
            intro x8 x9 S H locs ls hm hP hS hl
            have hm : X7_shows_B99 x1 x2 x3 x5 x7 x8 x9 S Q k84 (zn (X7_shows_L99 x1 x2 x3 x5 x7 Q k84) n) := hm
            generalize zn (X7_shows_L99 x1 x2 x3 x5 x7 Q k84) n = k99 at hm ih99
            unfold X7_shows_B99 at hm
            have b142 : ∀ (x9 : Int32) (t0 : Int32) (t1 : Int32) (S : ZS) (H : Heap) (locs : List Loc) (ls : Array Slot), X7_shows_b142 x1 x2 x3 x5 x7 x9 t0 t1 S Q k84 k99 → va_P D vwCl (zWS k a S) H → va_S (zA a s.heap.size) s.heap H locs → lv_has ls 10 [(0, .ref (a 61)), (1, .int x1), (2, .int x2), (3, .long x3), (5, .long x5), (7, .int x7), (9, .int x9)] → zWi p l e (headSpec wsX7_shows rm_X7_shows).room s m ([.ref (a 61), .int y1, .int y2] : List Value) below meth c D k a Q H locs (F0 m 142 ls [.int t0, .int t1]) := by
              intro x9 t0 t1 S H locs ls hm hP hS hl
              unfold X7_shows_b142 at hm
              refine lv_iadd hx hb dX7_shows_142 ?_
              refine lv_topi (fun x8_143 ex8_143 => ?_)
              have hm := hm x8_143 ex8_143
              refine lv_istore (lv' := [(8, .int x8_143), (0, .ref (a 61)), (1, .int x1), (2, .int x2), (3, .long x3), (5, .long x5), (7, .int x7), (9, .int x9)]) hx hb dX7_shows_143 hl (by decide) rfl (fun ls hl => ?_)
              obtain ⟨x9_145, ex9_145⟩ : ∃ y : Int32, y = x9 + (1 : Int32) := ⟨_, rfl⟩
              have hm := hm x9_145 ex9_145
              refine lv_iinc (v := x9_145) (lv' := [(9, .int x9_145), (8, .int x8_143), (0, .ref (a 61)), (1, .int x1), (2, .int x2), (3, .long x3), (5, .long x5), (7, .int x7)]) hx hb dX7_shows_145 hl (k := 7) rfl (by rw [ex9_145]; rfl) (by decide) rfl (fun ls hl => ?_)
              refine lv_goto (tgt := 99) hx hb dX7_shows_148 (by decide) ?_
              exact ih99 x8_143 x9_145 S _ _ _ hm hP hS (lv_sub hl [2, 3, 4, 5, 6, 7, 1, 0] rfl)
            refine lv_iload hx hb dX7_shows_99 (lv_at hl 7 rfl) ?_
            refine lv_aload_n hx hb dX7_shows_101 rfl (lv_at hl 0 rfl) ?_
            refine zg_7_rows hx hb hts i7 hown hK hP (hts _ (List.mem_of_getElem? (i := 1) rfl)) dX7_shows_102 ?_
            refine lv_icmp_ge (tgt := 151) hx hb dX7_shows_105 (by decide) (fun c_105 => ?_) (fun c_105 => ?_)
            · have hm := hm.1 c_105
              exact b151 x5 x7 x8 S _ _ _ hm hP hS (lv_sub hl [0, 1, 2, 3, 4, 5, 6] rfl)
            · have hm := hm.2 c_105
              refine lv_iload hx hb dX7_shows_108 (lv_at hl 6 rfl) ?_
              refine lv_iload_n hx hb dX7_shows_110 rfl (lv_at hl 1 rfl) ?_
              refine lv_iload hx hb dX7_shows_111 (lv_at hl 7 rfl) ?_
              refine lv_ishr hx hb dX7_shows_113 ?_
              refine lv_iconst (v := (1 : Int32)) hx hb dX7_shows_114 (by decide) ?_
              refine lv_iand hx hb dX7_shows_115 ?_
              refine lv_iconst (v := (1 : Int32)) hx hb dX7_shows_116 (by decide) ?_
              refine lv_icmp_ne (tgt := 141) hx hb dX7_shows_117 (by decide) (fun c_117 => ?_) (fun c_117 => ?_)
              · have hm := hm.2 c_117
                refine lv_iconst (v := (0 : Int32)) hx hb dX7_shows_141 (by decide) ?_
                exact b142 x9 (0 : Int32) x8 S _ _ _ hm hP hS (lv_sub hl [0, 1, 2, 3, 4, 5, 7] rfl)
              · have hm := hm.1 c_117
                refine lv_aload_n hx hb dX7_shows_120 rfl (lv_at hl 0 rfl) ?_
                refine lv_iload hx hb dX7_shows_121 (lv_at hl 7 rfl) ?_
                refine lv_iload hx hb dX7_shows_123 (lv_at hl 5 rfl) ?_
                refine z_cVi (As := [.int x9, .int x7]) (rest := [.int x8]) hF hK hP hS zO_61 rfl rfl (c_X7_coef l D k a hj x9 x7 S _ hm _) (cwV 2 hts gX7_shows_X7_coef rfl rfl rfl (by decide +kernel) ⟨Nat.le_of_ble_eq_true rfl, Nat.le_of_ble_eq_true rfl⟩) rfl hl.1 rfl (Nat.le_of_ble_eq_true rfl) dX7_shows_125 ⟨Nat.zero_le _, Nat.zero_le _⟩ (fun r_125 S_125 H locs hm hP hS => ?_)
                refine lv_aload_n hx hb dX7_shows_128 rfl (lv_at hl 0 rfl) ?_
                refine zg_7_signs hx hb hts i7 hown hK hP (hts _ (List.mem_of_getElem? (i := 3) rfl)) dX7_shows_129 ?_
                refine lv_iload hx hb dX7_shows_132 (lv_at hl 7 rfl) ?_
                obtain ⟨h_134, hm⟩ := hm
                refine z_iald hx hb hK hP zI_71 h_134 dX7_shows_134 ?_
                refine lv_imul hx hb dX7_shows_135 ?_
                refine lv_iload_n hx hb dX7_shows_136 rfl (lv_at hl 2 rfl) ?_
                refine lv_imul hx hb dX7_shows_137 ?_
                refine lv_goto (tgt := 142) hx hb dX7_shows_138 (by decide) ?_
                exact b142 x9 ((r_125 * (S_125.1 71 (x9).toNatClampNeg)) * x2) x8 S_125 _ _ _ hm hP hS (lv_sub hl [0, 1, 2, 3, 4, 5, 7] rfl)
        refine lv_iload hx hb dX7_shows_84 (lv_at hl 5 rfl) ?_
        refine lv_aload_n hx hb dX7_shows_86 rfl (lv_at hl 0 rfl) ?_
        refine zg_7_columns hx hb hts i7 hown hK hP (hts _ (List.mem_of_getElem? (i := 5) rfl)) dX7_shows_87 ?_
        refine lv_icmp_ge (tgt := 189) hx hb dX7_shows_90 (by decide) (fun c_90 => ?_) (fun c_90 => ?_)
        · have hm := hm.1 c_90
          exact b189 x3 x5 S _ _ _ hm hP hS (lv_sub hl [0, 3, 4] rfl)
        · have hm := hm.2 c_90
          refine lv_iconst (v := (0 : Int32)) hx hb dX7_shows_93 (by decide) ?_
          refine lv_istore (lv' := [(8, .int (0 : Int32)), (0, .ref (a 61)), (1, .int x1), (2, .int x2), (3, .long x3), (5, .long x5), (7, .int x7)]) hx hb dX7_shows_94 hl (by decide) rfl (fun ls hl => ?_)
          refine lv_iconst (v := (0 : Int32)) hx hb dX7_shows_96 (by decide) ?_
          refine lv_istore (lv' := [(9, .int (0 : Int32)), (8, .int (0 : Int32)), (0, .ref (a 61)), (1, .int x1), (2, .int x2), (3, .long x3), (5, .long x5), (7, .int x7)]) hx hb dX7_shows_97 hl (by decide) rfl (fun ls hl => ?_)
          obtain ⟨n99, hm⟩ := hm
          exact L99 x5 x7 n99 (0 : Int32) (0 : Int32) S _ _ _ hm hP hS (lv_sub hl [2, 3, 4, 5, 6, 7, 1, 0] rfl)
    refine lv_lconst (v := (0 : Int64)) hx hb dX7_shows_78 (by decide) ?_
    refine lv_lstore (lv' := [(5, .long (0 : Int64)), (0, .ref (a 61)), (1, .int x1), (2, .int x2), (3, .long x3)]) hx hb dX7_shows_79 hl (by decide) rfl (fun ls hl => ?_)
    refine lv_iconst (v := (0 : Int32)) hx hb dX7_shows_81 (by decide) ?_
    refine lv_istore (lv' := [(7, .int (0 : Int32)), (5, .long (0 : Int64)), (0, .ref (a 61)), (1, .int x1), (2, .int x2), (3, .long x3)]) hx hb dX7_shows_82 hl (by decide) rfl (fun ls hl => ?_)
    obtain ⟨n84, hm⟩ := hm
    exact L84 x1 x2 x3 n84 (0 : Int64) (0 : Int32) S _ _ _ hm hP hS (lv_sub hl [2, 3, 4, 5, 1, 0] rfl)
  have b47 : ∀ (S : ZS) (H : Heap) (locs : List Loc) (ls : Array Slot), X7_shows_b47 S Q → va_P D vwCl (zWS k a S) H → va_S (zA a s.heap.size) s.heap H locs → lv_has ls 10 [(0, .ref (a 61))] → zWi p l e (headSpec wsX7_shows rm_X7_shows).room s m ([.ref (a 61), .int y1, .int y2] : List Value) below meth c D k a Q H locs (F0 m 47 ls []) := by
    intro S H locs ls hm hP hS hl
    unfold X7_shows_b47 at hm
    refine lv_iconst (v := (0 : Int32)) hx hb dX7_shows_47 (by decide) ?_
    exact z_retz hx hb hr hlocks hP hS hm dX7_shows_48
  have L5 : ∀ (x1 : Int32) (x2 : Int32) (n : Nat) (x3 : Int64) (x5 : Int32) (S : ZS) (H : Heap) (locs : List Loc) (ls : Array Slot), zn (X7_shows_L5 x1 x2 Q) n (x3, x5, S) → va_P D vwCl (zWS k a S) H → va_S (zA a s.heap.size) s.heap H locs → lv_has ls 10 [(0, .ref (a 61)), (1, .int x1), (2, .int x2), (3, .long x3), (5, .int x5)] → zWi p l e (headSpec wsX7_shows rm_X7_shows).room s m ([.ref (a 61), .int y1, .int y2] : List Value) below meth c D k a Q H locs (F0 m 5 ls []) := by
    intro x1 x2 n
    induction n with
    | zero =>
      intro x3 x5 S H locs ls hm
      exact hm.elim
    | succ n ih5 =>
      intro x3 x5 S H locs ls hm hP hS hl
      have hm : X7_shows_B5 x1 x2 x3 x5 S Q (zn (X7_shows_L5 x1 x2 Q) n) := hm
      generalize zn (X7_shows_L5 x1 x2 Q) n = k5 at hm ih5
      unfold X7_shows_B5 at hm
      have b72 : ∀ (x3 : Int64) (x5 : Int32) (S : ZS) (H : Heap) (locs : List Loc) (ls : Array Slot), X7_shows_b72 x1 x2 x3 x5 S Q k5 → va_P D vwCl (zWS k a S) H → va_S (zA a s.heap.size) s.heap H locs → lv_has ls 10 [(0, .ref (a 61)), (1, .int x1), (2, .int x2), (3, .long x3), (5, .int x5)] → zWi p l e (headSpec wsX7_shows rm_X7_shows).room s m ([.ref (a 61), .int y1, .int y2] : List Value) below meth c D k a Q H locs (F0 m 72 ls []) := by
        intro x3 x5 S H locs ls hm hP hS hl
        unfold X7_shows_b72 at hm
        obtain ⟨x5_72, ex5_72⟩ : ∃ y : Int32, y = x5 + (1 : Int32) := ⟨_, rfl⟩
        have hm := hm x5_72 ex5_72
        refine lv_iinc (v := x5_72) (lv' := [(5, .int x5_72), (0, .ref (a 61)), (1, .int x1), (2, .int x2), (3, .long x3)]) hx hb dX7_shows_72 hl (k := 4) rfl (by rw [ex5_72]; rfl) (by decide) rfl (fun ls hl => ?_)
        refine lv_goto (tgt := 5) hx hb dX7_shows_75 (by decide) ?_
        exact ih5 x3 x5_72 S _ _ _ hm hP hS (lv_sub hl [1, 2, 3, 4, 0] rfl)
      have b49 : ∀ (x3 : Int64) (x5 : Int32) (S : ZS) (H : Heap) (locs : List Loc) (ls : Array Slot), X7_shows_b49 x1 x2 x3 x5 S Q k5 → va_P D vwCl (zWS k a S) H → va_S (zA a s.heap.size) s.heap H locs → lv_has ls 10 [(0, .ref (a 61)), (1, .int x1), (2, .int x2), (3, .long x3), (5, .int x5)] → zWi p l e (headSpec wsX7_shows rm_X7_shows).room s m ([.ref (a 61), .int y1, .int y2] : List Value) below meth c D k a Q H locs (F0 m 49 ls []) := by
        intro x3 x5 S H locs ls hm hP hS hl
        unfold X7_shows_b49 at hm
        refine lv_lload_n hx hb dX7_shows_49 rfl (lv_at hl 3 rfl) ?_
        refine lv_aload_n hx hb dX7_shows_50 rfl (lv_at hl 0 rfl) ?_
        refine zg_7_rights hx hb hts i7 hown hK hP (hts _ (List.mem_of_getElem? (i := 4) rfl)) dX7_shows_51 ?_
        refine lv_iload hx hb dX7_shows_54 (lv_at hl 4 rfl) ?_
        obtain ⟨h_56, hm⟩ := hm
        refine z_iald hx hb hK hP zI_66 h_56 dX7_shows_56 ?_
        refine lv_i2l hx hb dX7_shows_57 rfl ?_
        refine lv_aload_n hx hb dX7_shows_58 rfl (lv_at hl 0 rfl) ?_
        refine zg_7_signs hx hb hts i7 hown hK hP (hts _ (List.mem_of_getElem? (i := 3) rfl)) dX7_shows_59 ?_
        refine lv_iload hx hb dX7_shows_62 (lv_at hl 4 rfl) ?_
        obtain ⟨h_64, hm⟩ := hm
        refine z_iald hx hb hK hP zI_71 h_64 dX7_shows_64 ?_
        refine lv_i2l hx hb dX7_shows_65 rfl ?_
        refine lv_lmul hx hb dX7_shows_66 ?_
        refine lv_iload_n hx hb dX7_shows_67 rfl (lv_at hl 2 rfl) ?_
        refine lv_i2l hx hb dX7_shows_68 rfl ?_
        refine lv_lmul hx hb dX7_shows_69 ?_
        refine lv_ladd hx hb dX7_shows_70 ?_
        refine lv_topl (fun x3_71 ex3_71 => ?_)
        have hm := hm x3_71 ex3_71
        refine lv_lstore_n (lv' := [(3, .long x3_71), (0, .ref (a 61)), (1, .int x1), (2, .int x2), (5, .int x5)]) hx hb dX7_shows_71 rfl hl (by decide) rfl (fun ls hl => ?_)
        exact b72 x3_71 x5 S _ _ _ hm hP hS (lv_sub hl [1, 2, 3, 0, 4] rfl)
      refine lv_iload hx hb dX7_shows_5 (lv_at hl 4 rfl) ?_
      refine lv_aload_n hx hb dX7_shows_7 rfl (lv_at hl 0 rfl) ?_
      refine zg_7_rows hx hb hts i7 hown hK hP (hts _ (List.mem_of_getElem? (i := 1) rfl)) dX7_shows_8 ?_
      refine lv_icmp_ge (tgt := 78) hx hb dX7_shows_11 (by decide) (fun c_11 => ?_) (fun c_11 => ?_)
      · have hm := hm.1 c_11
        exact b78 x1 x2 x3 S _ _ _ hm hP hS (lv_sub hl [0, 1, 2, 3] rfl)
      · have hm := hm.2 c_11
        refine lv_iload_n hx hb dX7_shows_14 rfl (lv_at hl 1 rfl) ?_
        refine lv_iload hx hb dX7_shows_15 (lv_at hl 4 rfl) ?_
        refine lv_ishr hx hb dX7_shows_17 ?_
        refine lv_iconst (v := (1 : Int32)) hx hb dX7_shows_18 (by decide) ?_
        refine lv_iand hx hb dX7_shows_19 ?_
        refine lv_iconst (v := (1 : Int32)) hx hb dX7_shows_20 (by decide) ?_
        refine lv_icmp_ne (tgt := 72) hx hb dX7_shows_21 (by decide) (fun c_21 => ?_) (fun c_21 => ?_)
        · have hm := hm.2 c_21
          exact b72 x3 x5 S _ _ _ hm hP hS (lv_sub hl [0, 1, 2, 3, 4] rfl)
        · have hm := hm.1 c_21
          refine lv_aload_n hx hb dX7_shows_24 rfl (lv_at hl 0 rfl) ?_
          refine zg_7_kind hx hb hts i7 hown hK hP (hts _ (List.mem_of_getElem? (i := 2) rfl)) dX7_shows_25 ?_
          refine lv_iload hx hb dX7_shows_28 (lv_at hl 4 rfl) ?_
          obtain ⟨h_30, hm⟩ := hm
          refine z_iald hx hb hK hP zI_74 h_30 dX7_shows_30 ?_
          refine lv_if_ne (tgt := 49) hx hb dX7_shows_31 (by decide) (fun c_31 => ?_) (fun c_31 => ?_)
          · have hm := hm.2 c_31
            exact b49 x3 x5 S _ _ _ hm hP hS (lv_sub hl [0, 1, 2, 3, 4] rfl)
          · have hm := hm.1 c_31
            refine lv_aload_n hx hb dX7_shows_34 rfl (lv_at hl 0 rfl) ?_
            refine zg_7_signs hx hb hts i7 hown hK hP (hts _ (List.mem_of_getElem? (i := 3) rfl)) dX7_shows_35 ?_
            refine lv_iload hx hb dX7_shows_38 (lv_at hl 4 rfl) ?_
            obtain ⟨h_40, hm⟩ := hm
            refine z_iald hx hb hK hP zI_71 h_40 dX7_shows_40 ?_
            refine lv_iload_n hx hb dX7_shows_41 rfl (lv_at hl 2 rfl) ?_
            refine lv_imul hx hb dX7_shows_42 ?_
            refine lv_iconst (v := (1 : Int32)) hx hb dX7_shows_43 (by decide) ?_
            refine lv_icmp_eq (tgt := 49) hx hb dX7_shows_44 (by decide) (fun c_44 => ?_) (fun c_44 => ?_)
            · have hm := hm.1 c_44
              exact b49 x3 x5 S _ _ _ hm hP hS (lv_sub hl [0, 1, 2, 3, 4] rfl)
            · have hm := hm.2 c_44
              exact b47  S _ _ _ hm hP hS (lv_sub hl [0] rfl)
  unfold X7_shows at hm
  refine lv_lconst (v := (0 : Int64)) hx hb dX7_shows_0 (by decide) ?_
  refine lv_lstore_n (lv' := [(3, .long (0 : Int64)), (0, .ref (a 61)), (1, .int y1), (2, .int y2)]) hx hb dX7_shows_1 rfl hl (by decide) rfl (fun ls hl => ?_)
  refine lv_iconst (v := (0 : Int32)) hx hb dX7_shows_2 (by decide) ?_
  refine lv_istore (lv' := [(5, .int (0 : Int32)), (3, .long (0 : Int64)), (0, .ref (a 61)), (1, .int y1), (2, .int y2)]) hx hb dX7_shows_3 hl (by decide) rfl (fun ls hl => ?_)
  obtain ⟨n5, hm⟩ := hm
  exact L5 y1 y2 n5 (0 : Int64) (0 : Int32) S _ _ _ hm hP hS (lv_sub hl [2, 3, 4, 1, 0] rfl)

abbrev rm_X7_firstProof : Room := { frames := 2, cells := 0, slots := 0, locals := 51 }
def X7_firstProof_b46 (S : ZS) (Q : Int32 → ZS → Prop) : Prop :=
  Q (-1 : Int32) S
def X7_firstProof_b34 (x1 : Int32) (S : ZS) (Q : Int32 → ZS → Prop) : Prop :=
  Q (((2 : Int32) * x1) + (1 : Int32)) S
def X7_firstProof_b21 (x1 : Int32) (S : ZS) (Q : Int32 → ZS → Prop) : Prop :=
  Q ((2 : Int32) * x1) S
def X7_firstProof_B2 (x1 : Int32) (S : ZS) (Q : Int32 → ZS → Prop) (k2 : Int32 × ZS → Prop) : Prop :=
  (((1 : Int32) <<< ((S.1 61 2) &&& 31)) ≤ x1 → X7_firstProof_b46 S Q) ∧ (¬ ((1 : Int32) <<< ((S.1 61 2) &&& 31)) ≤ x1 → X7_shows x1 (1 : Int32) S (fun r_15 S_15 => (r_15 = 0 → X7_shows x1 (-1 : Int32) S_15 (fun r_28 S_28 => (r_28 = 0 → ∀ x1_40 : Int32, x1_40 = x1 + (1 : Int32) → k2 (x1_40, S_28)) ∧ (¬ r_28 = 0 → X7_firstProof_b34 x1 S_28 Q))) ∧ (¬ r_15 = 0 → X7_firstProof_b21 x1 S_15 Q)))
def X7_firstProof_L2 (Q : Int32 → ZS → Prop) : (Int32 × ZS) → ((Int32 × ZS) → Prop) → Prop := fun st k2 => X7_firstProof_B2 st.1 st.2 Q k2
def X7_firstProof (S : ZS) (Q : Int32 → ZS → Prop) : Prop :=
  zl (X7_firstProof_L2 Q) ((1 : Int32), S)
set_option maxHeartbeats 4000000 in
set_option maxRecDepth 100000 in
theorem c_X7_firstProof (l : Launch) (D : va_G) (k : Nat → ClassId) (a : Nat → Nat) (hj : zDj a) (S : ZS) (Q : Int32 → ZS → Prop) (hm : X7_firstProof S Q) (sz : Nat) : Met l yX7_firstProof wsX7_firstProof rm_X7_firstProof (zPc D k a [.ref (a 61)] S sz) (va_Qi Q (zB D k a) (zA a sz)) 0 0 (zA a sz) := by
  refine Met.ofW (cc := cX7_firstProof) (maxL := 2) (ret := (some .int)) (by decide) rfl ?_
  intro p e s m args below meth c s₁ B hml hv
  obtain ⟨rfl, hsz, hP, hK⟩ := hv
  have hx := B.exec
  have hb := B.bytes
  have hr := B.returns
  have hts := atoms_spec (ws := wsX7_firstProof) B.pre
  have hown : s.vm.findClass RX7 = some m.cls := findClass_of_methodNamed B.named
  have hlocks := B.notSynchronized
  subst hsz
  have hS : va_S (zA a s.heap.size) s.heap s.heap [] := va_S.rf
  have hF : CallFix p m c cX7_firstProof 2 s _ wsX7_firstProof RX7 := ⟨hx, hb, hml, hown, hts⟩
  have i7 : ∀ w ∈ wsX70, w ∈ wsX7_firstProof := fun _ h => (List.mem_cons_of_mem _ (List.mem_append_right _ h))
  have hl := lv_entry ([.ref (a 61)]) (n := 2) (Nat.le_of_ble_eq_true rfl)
  rw [lg_entry_eq]
  generalize (lg_sl ([.ref (a 61)]) ++ List.replicate (2 - (lg_sl ([.ref (a 61)])).length) Slot.unset).toArray = ls at hl ⊢
  have hl : lv_has ls 2 [(0, .ref (a 61))] := hl
  have b46 : ∀ (S : ZS) (H : Heap) (locs : List Loc) (ls : Array Slot), X7_firstProof_b46 S Q → va_P D vwCl (zWS k a S) H → va_S (zA a s.heap.size) s.heap H locs → lv_has ls 2 [(0, .ref (a 61))] → zWi p l e (headSpec wsX7_firstProof rm_X7_firstProof).room s m ([.ref (a 61)] : List Value) below meth c D k a Q H locs (F0 m 46 ls []) := by
    intro S H locs ls hm hP hS hl
    unfold X7_firstProof_b46 at hm
    refine lv_iconst (v := (-1 : Int32)) hx hb dX7_firstProof_46 (by decide) ?_
    exact z_reti hx hb hr hlocks hP hS hm dX7_firstProof_47
  have b34 : ∀ (x1 : Int32) (S : ZS) (H : Heap) (locs : List Loc) (ls : Array Slot), X7_firstProof_b34 x1 S Q → va_P D vwCl (zWS k a S) H → va_S (zA a s.heap.size) s.heap H locs → lv_has ls 2 [(0, .ref (a 61)), (1, .int x1)] → zWi p l e (headSpec wsX7_firstProof rm_X7_firstProof).room s m ([.ref (a 61)] : List Value) below meth c D k a Q H locs (F0 m 34 ls []) := by
    intro x1 S H locs ls hm hP hS hl
    unfold X7_firstProof_b34 at hm
    refine lv_iconst (v := (2 : Int32)) hx hb dX7_firstProof_34 (by decide) ?_
    refine lv_iload_n hx hb dX7_firstProof_35 rfl (lv_at hl 1 rfl) ?_
    refine lv_imul hx hb dX7_firstProof_36 ?_
    refine lv_iconst (v := (1 : Int32)) hx hb dX7_firstProof_37 (by decide) ?_
    refine lv_iadd hx hb dX7_firstProof_38 ?_
    exact z_reti hx hb hr hlocks hP hS hm dX7_firstProof_39
  have b21 : ∀ (x1 : Int32) (S : ZS) (H : Heap) (locs : List Loc) (ls : Array Slot), X7_firstProof_b21 x1 S Q → va_P D vwCl (zWS k a S) H → va_S (zA a s.heap.size) s.heap H locs → lv_has ls 2 [(0, .ref (a 61)), (1, .int x1)] → zWi p l e (headSpec wsX7_firstProof rm_X7_firstProof).room s m ([.ref (a 61)] : List Value) below meth c D k a Q H locs (F0 m 21 ls []) := by
    intro x1 S H locs ls hm hP hS hl
    unfold X7_firstProof_b21 at hm
    refine lv_iconst (v := (2 : Int32)) hx hb dX7_firstProof_21 (by decide) ?_
    refine lv_iload_n hx hb dX7_firstProof_22 rfl (lv_at hl 1 rfl) ?_
    refine lv_imul hx hb dX7_firstProof_23 ?_
    exact z_reti hx hb hr hlocks hP hS hm dX7_firstProof_24
  have L2 : ∀ (n : Nat) (x1 : Int32) (S : ZS) (H : Heap) (locs : List Loc) (ls : Array Slot), zn (X7_firstProof_L2 Q) n (x1, S) → va_P D vwCl (zWS k a S) H → va_S (zA a s.heap.size) s.heap H locs → lv_has ls 2 [(0, .ref (a 61)), (1, .int x1)] → zWi p l e (headSpec wsX7_firstProof rm_X7_firstProof).room s m ([.ref (a 61)] : List Value) below meth c D k a Q H locs (F0 m 2 ls []) := by
    intro n
    induction n with
    | zero =>
      intro x1 S H locs ls hm
      exact hm.elim
    | succ n ih2 =>
      intro x1 S H locs ls hm hP hS hl
      have hm : X7_firstProof_B2 x1 S Q (zn (X7_firstProof_L2 Q) n) := hm
      generalize zn (X7_firstProof_L2 Q) n = k2 at hm ih2
      unfold X7_firstProof_B2 at hm
      refine lv_iload_n hx hb dX7_firstProof_2 rfl (lv_at hl 1 rfl) ?_
      refine lv_iconst (v := (1 : Int32)) hx hb dX7_firstProof_3 (by decide) ?_
      refine lv_aload_n hx hb dX7_firstProof_4 rfl (lv_at hl 0 rfl) ?_
      refine zg_7_rows hx hb hts i7 hown hK hP (hts _ (List.mem_of_getElem? (i := 1) rfl)) dX7_firstProof_5 ?_
      refine lv_ishl hx hb dX7_firstProof_8 ?_
      refine lv_icmp_ge (tgt := 46) hx hb dX7_firstProof_9 (by decide) (fun c_9 => ?_) (fun c_9 => ?_)
      · have hm := hm.1 c_9
        exact b46  S _ _ _ hm hP hS (lv_sub hl [0] rfl)
      · have hm := hm.2 c_9
        refine lv_aload_n hx hb dX7_firstProof_12 rfl (lv_at hl 0 rfl) ?_
        refine lv_iload_n hx hb dX7_firstProof_13 rfl (lv_at hl 1 rfl) ?_
        refine lv_iconst (v := (1 : Int32)) hx hb dX7_firstProof_14 (by decide) ?_
        refine z_cVi (As := [.int x1, .int (1 : Int32)]) (rest := []) hF hK hP hS zO_61 rfl rfl (c_X7_shows l D k a hj x1 (1 : Int32) S _ hm _) (cwV 2 hts gX7_firstProof_X7_shows rfl rfl rfl (by decide +kernel) ⟨Nat.le_of_ble_eq_true rfl, Nat.le_of_ble_eq_true rfl⟩) rfl hl.1 rfl (Nat.le_of_ble_eq_true rfl) dX7_firstProof_15 ⟨Nat.zero_le _, Nat.zero_le _⟩ (fun r_15 S_15 H locs hm hP hS => ?_)
        refine lv_if_eq (tgt := 25) hx hb dX7_firstProof_18 (by decide) (fun c_18 => ?_) (fun c_18 => ?_)
        · have hm := hm.1 c_18
          refine lv_aload_n hx hb dX7_firstProof_25 rfl (lv_at hl 0 rfl) ?_
          refine lv_iload_n hx hb dX7_firstProof_26 rfl (lv_at hl 1 rfl) ?_
          refine lv_iconst (v := (-1 : Int32)) hx hb dX7_firstProof_27 (by decide) ?_
          refine z_cVi (As := [.int x1, .int (-1 : Int32)]) (rest := []) hF hK hP hS zO_61 rfl rfl (c_X7_shows l D k a hj x1 (-1 : Int32) S_15 _ hm _) (cwV 2 hts gX7_firstProof_X7_shows rfl rfl rfl (by decide +kernel) ⟨Nat.le_of_ble_eq_true rfl, Nat.le_of_ble_eq_true rfl⟩) rfl hl.1 rfl (Nat.le_of_ble_eq_true rfl) dX7_firstProof_28 ⟨Nat.zero_le _, Nat.zero_le _⟩ (fun r_28 S_28 H locs hm hP hS => ?_)
          refine lv_if_eq (tgt := 40) hx hb dX7_firstProof_31 (by decide) (fun c_31 => ?_) (fun c_31 => ?_)
          · have hm := hm.1 c_31
            obtain ⟨x1_40, ex1_40⟩ : ∃ y : Int32, y = x1 + (1 : Int32) := ⟨_, rfl⟩
            have hm := hm x1_40 ex1_40
            refine lv_iinc (v := x1_40) (lv' := [(1, .int x1_40), (0, .ref (a 61))]) hx hb dX7_firstProof_40 hl (k := 1) rfl (by rw [ex1_40]; rfl) (by decide) rfl (fun ls hl => ?_)
            refine lv_goto (tgt := 2) hx hb dX7_firstProof_43 (by decide) ?_
            exact ih2 x1_40 S_28 _ _ _ hm hP hS (lv_sub hl [1, 0] rfl)
          · have hm := hm.2 c_31
            exact b34 x1 S_28 _ _ _ hm hP hS (lv_sub hl [0, 1] rfl)
        · have hm := hm.2 c_18
          exact b21 x1 S_15 _ _ _ hm hP hS (lv_sub hl [0, 1] rfl)
  unfold X7_firstProof at hm
  refine lv_iconst (v := (1 : Int32)) hx hb dX7_firstProof_0 (by decide) ?_
  refine lv_istore_n (lv' := [(1, .int (1 : Int32)), (0, .ref (a 61))]) hx hb dX7_firstProof_1 rfl hl (by decide) rfl (fun ls hl => ?_)
  obtain ⟨n2, hm⟩ := hm
  exact L2 n2 (1 : Int32) S _ _ _ hm hP hS (lv_sub hl [1, 0] rfl)

abbrev rm_X7_findLeast : Room := { frames := 3, cells := 0, slots := 0, locals := 72 }
def X7_findLeast_b130 (S : ZS) (Q : ZS → Prop) : Prop :=
  Q S
def X7_findLeast_b103 (x1 : Int32) (x3 : Int32) (S : ZS) (Q : ZS → Prop) (k2 : Int32 × ZS → Prop) : Prop :=
  vp_in x1 10 ∧ ∀ S_109 : ZS, S_109 = zu S 72 (x1).toNatClampNeg x3 → vp_in x1 10 ∧ ∀ S_116 : ZS, S_116 = zu S_109 73 (x1).toNatClampNeg x3 → vp_in x1 10 ∧ ∀ S_123 : ZS, S_123 = zu S_116 68 (x1).toNatClampNeg x3 → ∀ x1_124 : Int32, x1_124 = x1 + (1 : Int32) → k2 (x1_124, S_123)
def X7_findLeast_b96 (x1 : Int32) (x2 : Int32) (x4 : Int32) (t0 : Int32) (S : ZS) (Q : ZS → Prop) (k2 : Int32 × ZS → Prop) (k27 : Int32 × Int32 × Int32 × ZS → Prop) : Prop :=
  ∀ x4_97 : Int32, x4_97 = x4 + (1 : Int32) → k27 (x2, t0, x4_97, S)
def X7_findLeast_b84 (x1 : Int32) (x3 : Int32) (x4 : Int32) (x5 : Int32) (x6 : Int32) (t0 : Int32) (S : ZS) (Q : ZS → Prop) (k2 : Int32 × ZS → Prop) (k27 : Int32 × Int32 × Int32 × ZS → Prop) : Prop :=
  (x6 = 0 → X7_findLeast_b96 x1 t0 x4 x3 S Q k2 k27) ∧ (¬ x6 = 0 → X7_findLeast_b96 x1 t0 x4 x5 S Q k2 k27)
def X7_findLeast_b69 (x1 : Int32) (x2 : Int32) (x3 : Int32) (x4 : Int32) (x5 : Int32) (t0 : Int32) (S : ZS) (Q : ZS → Prop) (k2 : Int32 × ZS → Prop) (k27 : Int32 × Int32 × Int32 × ZS → Prop) : Prop :=
  (t0 = 0 → X7_findLeast_b84 x1 x3 x4 x5 t0 (x5 + (1 : Int32)) S Q k2 k27) ∧ (¬ t0 = 0 → X7_findLeast_b84 x1 x3 x4 x5 t0 x2 S Q k2 k27)
def X7_findLeast_B27 (x1 : Int32) (x2 : Int32) (x3 : Int32) (x4 : Int32) (S : ZS) (Q : ZS → Prop) (k2 : Int32 × ZS → Prop) (k27 : Int32 × Int32 × Int32 × ZS → Prop) : Prop :=
  ((12 : Int32) ≤ x4 → X7_findLeast_b103 x1 x3 S Q k2) ∧ (¬ (12 : Int32) ≤ x4 → (x3 ≤ x2 → X7_findLeast_b103 x1 x3 S Q k2) ∧ (¬ x3 ≤ x2 → ¬ (2 : Int32) = 0 ∧ ∀ x5_46 : Int32, x5_46 = (x2 + ((x3 - x2) / (2 : Int32))) → vp_in x1 10 ∧ ∀ S_55 : ZS, S_55 = zu S 73 (x1).toNatClampNeg x5_46 → X7_firstProof S_55 (fun r_57 S_57 => (r_57 = (-1 : Int32) → X7_findLeast_b69 x1 x2 x3 x4 x5_46 (1 : Int32) S_57 Q k2 k27) ∧ (¬ r_57 = (-1 : Int32) → X7_findLeast_b69 x1 x2 x3 x4 x5_46 (0 : Int32) S_57 Q k2 k27))))
def X7_findLeast_L27 (x1 : Int32) (Q : ZS → Prop) (k2 : Int32 × ZS → Prop) : (Int32 × Int32 × Int32 × ZS) → ((Int32 × Int32 × Int32 × ZS) → Prop) → Prop := fun st k27 => X7_findLeast_B27 x1 st.1 st.2.1 st.2.2.1 st.2.2.2 Q k2 k27
def X7_findLeast_B2 (x1 : Int32) (S : ZS) (Q : ZS → Prop) (k2 : Int32 × ZS → Prop) : Prop :=
  ((S.1 61 1) ≤ x1 → X7_findLeast_b130 S Q) ∧ (¬ (S.1 61 1) ≤ x1 → vp_in x1 10 ∧ ∀ x2_16 : Int32, x2_16 = (S.1 72 (x1).toNatClampNeg) → vp_in x1 10 ∧ ∀ x3_23 : Int32, x3_23 = (S.1 73 (x1).toNatClampNeg) → zl (X7_findLeast_L27 x1 Q k2) (x2_16, x3_23, (0 : Int32), S))
def X7_findLeast_L2 (Q : ZS → Prop) : (Int32 × ZS) → ((Int32 × ZS) → Prop) → Prop := fun st k2 => X7_findLeast_B2 st.1 st.2 Q k2
def X7_findLeast (S : ZS) (Q : ZS → Prop) : Prop :=
  zl (X7_findLeast_L2 Q) ((0 : Int32), S)
set_option maxHeartbeats 4000000 in
set_option maxRecDepth 100000 in
theorem c_X7_findLeast (l : Launch) (D : va_G) (k : Nat → ClassId) (a : Nat → Nat) (hj : zDj a) (S : ZS) (Q : ZS → Prop) (hm : X7_findLeast S Q) (sz : Nat) : Met l yX7_findLeast wsX7_findLeast rm_X7_findLeast (zPc D k a [.ref (a 61)] S sz) (va_Qv Q (zB D k a) (zA a sz)) 0 0 (zA a sz) := by
  refine Met.ofW (cc := cX7_findLeast) (maxL := 7) (ret := none) (by decide) rfl ?_
  intro p e s m args below meth c s₁ B hml hv
  obtain ⟨rfl, hsz, hP, hK⟩ := hv
  have hx := B.exec
  have hb := B.bytes
  have hr := B.returns
  have hts := atoms_spec (ws := wsX7_findLeast) B.pre
  have hown : s.vm.findClass RX7 = some m.cls := findClass_of_methodNamed B.named
  have hlocks := B.notSynchronized
  subst hsz
  have hS : va_S (zA a s.heap.size) s.heap s.heap [] := va_S.rf
  have hF : CallFix p m c cX7_findLeast 7 s _ wsX7_findLeast RX7 := ⟨hx, hb, hml, hown, hts⟩
  have i7 : ∀ w ∈ wsX70, w ∈ wsX7_findLeast := fun _ h => (List.mem_cons_of_mem _ (List.mem_append_right _ h))
  have hl := lv_entry ([.ref (a 61)]) (n := 7) (Nat.le_of_ble_eq_true rfl)
  rw [lg_entry_eq]
  generalize (lg_sl ([.ref (a 61)]) ++ List.replicate (7 - (lg_sl ([.ref (a 61)])).length) Slot.unset).toArray = ls at hl ⊢
  have hl : lv_has ls 7 [(0, .ref (a 61))] := hl
  have b130 : ∀ (S : ZS) (H : Heap) (locs : List Loc) (ls : Array Slot), X7_findLeast_b130 S Q → va_P D vwCl (zWS k a S) H → va_S (zA a s.heap.size) s.heap H locs → lv_has ls 7 [(0, .ref (a 61))] → zWv p l e (headSpec wsX7_findLeast rm_X7_findLeast).room s m ([.ref (a 61)] : List Value) below meth c D k a Q H locs (F0 m 130 ls []) := by
    intro S H locs ls hm hP hS hl
    unfold X7_findLeast_b130 at hm
    exact z_retv hx hb hr hlocks hP hS hm dX7_findLeast_130
  have L2 : ∀ (n : Nat) (x1 : Int32) (S : ZS) (H : Heap) (locs : List Loc) (ls : Array Slot), zn (X7_findLeast_L2 Q) n (x1, S) → va_P D vwCl (zWS k a S) H → va_S (zA a s.heap.size) s.heap H locs → lv_has ls 7 [(0, .ref (a 61)), (1, .int x1)] → zWv p l e (headSpec wsX7_findLeast rm_X7_findLeast).room s m ([.ref (a 61)] : List Value) below meth c D k a Q H locs (F0 m 2 ls []) := by
    intro n
    induction n with
    | zero =>
      intro x1 S H locs ls hm
      exact hm.elim
    | succ n ih2 =>
      intro x1 S H locs ls hm hP hS hl
      have hm : X7_findLeast_B2 x1 S Q (zn (X7_findLeast_L2 Q) n) := hm
      generalize zn (X7_findLeast_L2 Q) n = k2 at hm ih2
      unfold X7_findLeast_B2 at hm
      have b103 : ∀ (x1 : Int32) (x3 : Int32) (S : ZS) (H : Heap) (locs : List Loc) (ls : Array Slot), X7_findLeast_b103 x1 x3 S Q k2 → va_P D vwCl (zWS k a S) H → va_S (zA a s.heap.size) s.heap H locs → lv_has ls 7 [(0, .ref (a 61)), (1, .int x1), (3, .int x3)] → zWv p l e (headSpec wsX7_findLeast rm_X7_findLeast).room s m ([.ref (a 61)] : List Value) below meth c D k a Q H locs (F0 m 103 ls []) := by
        intro x1 x3 S H locs ls hm hP hS hl
        unfold X7_findLeast_b103 at hm
        refine lv_aload_n hx hb dX7_findLeast_103 rfl (lv_at hl 0 rfl) ?_
        refine zg_7_low hx hb hts i7 hown hK hP (hts _ (List.mem_of_getElem? (i := 2) rfl)) dX7_findLeast_104 ?_
        refine lv_iload_n hx hb dX7_findLeast_107 rfl (lv_at hl 1 rfl) ?_
        refine lv_iload_n hx hb dX7_findLeast_108 rfl (lv_at hl 2 rfl) ?_
        obtain ⟨h_109, hm⟩ := hm
        refine z_iast hx hb hj hK hP hS zI_72 h_109 dX7_findLeast_109 (fun H locs hP hS => ?_)
        obtain ⟨S_109, eS_109⟩ : ∃ z : ZS, z = zu S 72 (x1).toNatClampNeg x3 := ⟨_, rfl⟩
        rw [← eS_109] at hP
        have hm := hm S_109 eS_109
        refine lv_aload_n hx hb dX7_findLeast_110 rfl (lv_at hl 0 rfl) ?_
        refine zg_7_high hx hb hts i7 hown hK hP (hts _ (List.mem_of_getElem? (i := 3) rfl)) dX7_findLeast_111 ?_
        refine lv_iload_n hx hb dX7_findLeast_114 rfl (lv_at hl 1 rfl) ?_
        refine lv_iload_n hx hb dX7_findLeast_115 rfl (lv_at hl 2 rfl) ?_
        obtain ⟨h_116, hm⟩ := hm
        refine z_iast hx hb hj hK hP hS zI_73 h_116 dX7_findLeast_116 (fun H locs hP hS => ?_)
        obtain ⟨S_116, eS_116⟩ : ∃ z : ZS, z = zu S_109 73 (x1).toNatClampNeg x3 := ⟨_, rfl⟩
        rw [← eS_116] at hP
        have hm := hm S_116 eS_116
        refine lv_aload_n hx hb dX7_findLeast_117 rfl (lv_at hl 0 rfl) ?_
        refine zg_7_best hx hb hts i7 hown hK hP (hts _ (List.mem_of_getElem? (i := 4) rfl)) dX7_findLeast_118 ?_
        refine lv_iload_n hx hb dX7_findLeast_121 rfl (lv_at hl 1 rfl) ?_
        refine lv_iload_n hx hb dX7_findLeast_122 rfl (lv_at hl 2 rfl) ?_
        obtain ⟨h_123, hm⟩ := hm
        refine z_iast hx hb hj hK hP hS zI_68 h_123 dX7_findLeast_123 (fun H locs hP hS => ?_)
        obtain ⟨S_123, eS_123⟩ : ∃ z : ZS, z = zu S_116 68 (x1).toNatClampNeg x3 := ⟨_, rfl⟩
        rw [← eS_123] at hP
        have hm := hm S_123 eS_123
        obtain ⟨x1_124, ex1_124⟩ : ∃ y : Int32, y = x1 + (1 : Int32) := ⟨_, rfl⟩
        have hm := hm x1_124 ex1_124
        refine lv_iinc (v := x1_124) (lv' := [(1, .int x1_124), (0, .ref (a 61)), (3, .int x3)]) hx hb dX7_findLeast_124 hl (k := 1) rfl (by rw [ex1_124]; rfl) (by decide) rfl (fun ls hl => ?_)
        refine lv_goto (tgt := 2) hx hb dX7_findLeast_127 (by decide) ?_
        exact ih2 x1_124 S_123 _ _ _ hm hP hS (lv_sub hl [1, 0] rfl)
      have L27 : ∀ (x1 : Int32) (n : Nat) (x2 : Int32) (x3 : Int32) (x4 : Int32) (S : ZS) (H : Heap) (locs : List Loc) (ls : Array Slot), zn (X7_findLeast_L27 x1 Q k2) n (x2, x3, x4, S) → va_P D vwCl (zWS k a S) H → va_S (zA a s.heap.size) s.heap H locs → lv_has ls 7 [(0, .ref (a 61)), (1, .int x1), (2, .int x2), (3, .int x3), (4, .int x4)] → zWv p l e (headSpec wsX7_findLeast rm_X7_findLeast).room s m ([.ref (a 61)] : List Value) below meth c D k a Q H locs (F0 m 27 ls []) := by
        intro x1 n
        induction n with
        | zero =>
          intro x2 x3 x4 S H locs ls hm
          exact hm.elim
        | succ n ih27 =>
          intro x2 x3 x4 S H locs ls hm hP hS hl
          have hm : X7_findLeast_B27 x1 x2 x3 x4 S Q k2 (zn (X7_findLeast_L27 x1 Q k2) n) := hm
          generalize zn (X7_findLeast_L27 x1 Q k2) n = k27 at hm ih27
          unfold X7_findLeast_B27 at hm
          have b69 : ∀ (x2 : Int32) (x3 : Int32) (x4 : Int32) (x5 : Int32) (t0 : Int32) (S : ZS) (H : Heap) (locs : List Loc) (ls : Array Slot), X7_findLeast_b69 x1 x2 x3 x4 x5 t0 S Q k2 k27 → va_P D vwCl (zWS k a S) H → va_S (zA a s.heap.size) s.heap H locs → lv_has ls 7 [(0, .ref (a 61)), (1, .int x1), (2, .int x2), (3, .int x3), (4, .int x4), (5, .int x5)] → zWv p l e (headSpec wsX7_findLeast rm_X7_findLeast).room s m ([.ref (a 61)] : List Value) below meth c D k a Q H locs (F0 m 69 ls [.int t0]) := by
            intro x2 x3 x4 x5 t0 S H locs ls hm hP hS hl
            unfold X7_findLeast_b69 at hm
            have b84 : ∀ (x3 : Int32) (x4 : Int32) (x5 : Int32) (x6 : Int32) (t0 : Int32) (S : ZS) (H : Heap) (locs : List Loc) (ls : Array Slot), X7_findLeast_b84 x1 x3 x4 x5 x6 t0 S Q k2 k27 → va_P D vwCl (zWS k a S) H → va_S (zA a s.heap.size) s.heap H locs → lv_has ls 7 [(0, .ref (a 61)), (1, .int x1), (3, .int x3), (4, .int x4), (5, .int x5), (6, .int x6)] → zWv p l e (headSpec wsX7_findLeast rm_X7_findLeast).room s m ([.ref (a 61)] : List Value) below meth c D k a Q H locs (F0 m 84 ls [.int t0]) := by
              intro x3 x4 x5 x6 t0 S H locs ls hm hP hS hl
              unfold X7_findLeast_b84 at hm
              have b96 : ∀ (x2 : Int32) (x4 : Int32) (t0 : Int32) (S : ZS) (H : Heap) (locs : List Loc) (ls : Array Slot), X7_findLeast_b96 x1 x2 x4 t0 S Q k2 k27 → va_P D vwCl (zWS k a S) H → va_S (zA a s.heap.size) s.heap H locs → lv_has ls 7 [(0, .ref (a 61)), (1, .int x1), (2, .int x2), (4, .int x4)] → zWv p l e (headSpec wsX7_findLeast rm_X7_findLeast).room s m ([.ref (a 61)] : List Value) below meth c D k a Q H locs (F0 m 96 ls [.int t0]) := by
                intro x2 x4 t0 S H locs ls hm hP hS hl
                unfold X7_findLeast_b96 at hm
                refine lv_istore_n (lv' := [(3, .int t0), (0, .ref (a 61)), (1, .int x1), (2, .int x2), (4, .int x4)]) hx hb dX7_findLeast_96 rfl hl (by decide) rfl (fun ls hl => ?_)
                obtain ⟨x4_97, ex4_97⟩ : ∃ y : Int32, y = x4 + (1 : Int32) := ⟨_, rfl⟩
                have hm := hm x4_97 ex4_97
                refine lv_iinc (v := x4_97) (lv' := [(4, .int x4_97), (3, .int t0), (0, .ref (a 61)), (1, .int x1), (2, .int x2)]) hx hb dX7_findLeast_97 hl (k := 4) rfl (by rw [ex4_97]; rfl) (by decide) rfl (fun ls hl => ?_)
                refine lv_goto (tgt := 27) hx hb dX7_findLeast_100 (by decide) ?_
                exact ih27 x2 t0 x4_97 S _ _ _ hm hP hS (lv_sub hl [2, 3, 4, 1, 0] rfl)
              refine lv_istore_n (lv' := [(2, .int t0), (0, .ref (a 61)), (1, .int x1), (3, .int x3), (4, .int x4), (5, .int x5), (6, .int x6)]) hx hb dX7_findLeast_84 rfl hl (by decide) rfl (fun ls hl => ?_)
              refine lv_iload hx hb dX7_findLeast_85 (lv_at hl 6 rfl) ?_
              refine lv_if_eq (tgt := 95) hx hb dX7_findLeast_87 (by decide) (fun c_87 => ?_) (fun c_87 => ?_)
              · have hm := hm.1 c_87
                refine lv_iload_n hx hb dX7_findLeast_95 rfl (lv_at hl 3 rfl) ?_
                exact b96 t0 x4 x3 S _ _ _ hm hP hS (lv_sub hl [1, 2, 0, 4] rfl)
              · have hm := hm.2 c_87
                refine lv_iload hx hb dX7_findLeast_90 (lv_at hl 5 rfl) ?_
                refine lv_goto (tgt := 96) hx hb dX7_findLeast_92 (by decide) ?_
                exact b96 t0 x4 x5 S _ _ _ hm hP hS (lv_sub hl [1, 2, 0, 4] rfl)
            refine lv_istore (lv' := [(6, .int t0), (0, .ref (a 61)), (1, .int x1), (2, .int x2), (3, .int x3), (4, .int x4), (5, .int x5)]) hx hb dX7_findLeast_69 hl (by decide) rfl (fun ls hl => ?_)
            refine lv_iload hx hb dX7_findLeast_71 (lv_at hl 0 rfl) ?_
            refine lv_if_eq (tgt := 80) hx hb dX7_findLeast_73 (by decide) (fun c_73 => ?_) (fun c_73 => ?_)
            · have hm := hm.1 c_73
              refine lv_iload hx hb dX7_findLeast_80 (lv_at hl 6 rfl) ?_
              refine lv_iconst (v := (1 : Int32)) hx hb dX7_findLeast_82 (by decide) ?_
              refine lv_iadd hx hb dX7_findLeast_83 ?_
              exact b84 x3 x4 x5 t0 (x5 + (1 : Int32)) S _ _ _ hm hP hS (lv_sub hl [1, 2, 4, 5, 6, 0] rfl)
            · have hm := hm.2 c_73
              refine lv_iload_n hx hb dX7_findLeast_76 rfl (lv_at hl 3 rfl) ?_
              refine lv_goto (tgt := 84) hx hb dX7_findLeast_77 (by decide) ?_
              exact b84 x3 x4 x5 t0 x2 S _ _ _ hm hP hS (lv_sub hl [1, 2, 4, 5, 6, 0] rfl)
          refine lv_iload hx hb dX7_findLeast_27 (lv_at hl 4 rfl) ?_
          refine lv_bipush (v := (12 : Int32)) hx hb dX7_findLeast_29 (by decide) ?_
          refine lv_icmp_ge (tgt := 103) hx hb dX7_findLeast_31 (by decide) (fun c_31 => ?_) (fun c_31 => ?_)
          · have hm := hm.1 c_31
            exact b103 x1 x3 S _ _ _ hm hP hS (lv_sub hl [0, 1, 3] rfl)
          · have hm := hm.2 c_31
            refine lv_iload_n hx hb dX7_findLeast_34 rfl (lv_at hl 2 rfl) ?_
            refine lv_iload_n hx hb dX7_findLeast_35 rfl (lv_at hl 3 rfl) ?_
            refine lv_icmp_ge (tgt := 103) hx hb dX7_findLeast_36 (by decide) (fun c_36 => ?_) (fun c_36 => ?_)
            · have hm := hm.1 c_36
              exact b103 x1 x3 S _ _ _ hm hP hS (lv_sub hl [0, 1, 3] rfl)
            · have hm := hm.2 c_36
              refine lv_iload_n hx hb dX7_findLeast_39 rfl (lv_at hl 2 rfl) ?_
              refine lv_iload_n hx hb dX7_findLeast_40 rfl (lv_at hl 3 rfl) ?_
              refine lv_iload_n hx hb dX7_findLeast_41 rfl (lv_at hl 2 rfl) ?_
              refine lv_isub hx hb dX7_findLeast_42 ?_
              refine lv_iconst (v := (2 : Int32)) hx hb dX7_findLeast_43 (by decide) ?_
              obtain ⟨h_44, hm⟩ := hm
              refine lv_idiv hx hb dX7_findLeast_44 h_44 ?_
              refine lv_iadd hx hb dX7_findLeast_45 ?_
              refine lv_topi (fun x5_46 ex5_46 => ?_)
              have hm := hm x5_46 ex5_46
              refine lv_istore (lv' := [(5, .int x5_46), (0, .ref (a 61)), (1, .int x1), (2, .int x2), (3, .int x3), (4, .int x4)]) hx hb dX7_findLeast_46 hl (by decide) rfl (fun ls hl => ?_)
              refine lv_aload_n hx hb dX7_findLeast_48 rfl (lv_at hl 1 rfl) ?_
              refine zg_7_high hx hb hts i7 hown hK hP (hts _ (List.mem_of_getElem? (i := 3) rfl)) dX7_findLeast_49 ?_
              refine lv_iload_n hx hb dX7_findLeast_52 rfl (lv_at hl 2 rfl) ?_
              refine lv_iload hx hb dX7_findLeast_53 (lv_at hl 0 rfl) ?_
              obtain ⟨h_55, hm⟩ := hm
              refine z_iast hx hb hj hK hP hS zI_73 h_55 dX7_findLeast_55 (fun H locs hP hS => ?_)
              obtain ⟨S_55, eS_55⟩ : ∃ z : ZS, z = zu S 73 (x1).toNatClampNeg x5_46 := ⟨_, rfl⟩
              rw [← eS_55] at hP
              have hm := hm S_55 eS_55
              refine lv_aload_n hx hb dX7_findLeast_56 rfl (lv_at hl 1 rfl) ?_
              refine z_cVi (As := []) (rest := []) hF hK hP hS zO_61 rfl rfl (c_X7_firstProof l D k a hj  S_55 _ hm _) (cwV 0 hts gX7_findLeast_X7_firstProof rfl rfl rfl (by decide +kernel) ⟨Nat.le_of_ble_eq_true rfl, Nat.le_of_ble_eq_true rfl⟩) rfl hl.1 rfl (Nat.le_of_ble_eq_true rfl) dX7_findLeast_57 ⟨Nat.zero_le _, Nat.zero_le _⟩ (fun r_57 S_57 H locs hm hP hS => ?_)
              refine lv_iconst (v := (-1 : Int32)) hx hb dX7_findLeast_60 (by decide) ?_
              refine lv_icmp_ne (tgt := 68) hx hb dX7_findLeast_61 (by decide) (fun c_61 => ?_) (fun c_61 => ?_)
              · have hm := hm.2 c_61
                refine lv_iconst (v := (0 : Int32)) hx hb dX7_findLeast_68 (by decide) ?_
                exact b69 x2 x3 x4 x5_46 (0 : Int32) S_57 _ _ _ hm hP hS (lv_sub hl [1, 2, 3, 4, 5, 0] rfl)
              · have hm := hm.1 c_61
                refine lv_iconst (v := (1 : Int32)) hx hb dX7_findLeast_64 (by decide) ?_
                refine lv_goto (tgt := 69) hx hb dX7_findLeast_65 (by decide) ?_
                exact b69 x2 x3 x4 x5_46 (1 : Int32) S_57 _ _ _ hm hP hS (lv_sub hl [1, 2, 3, 4, 5, 0] rfl)
      refine lv_iload_n hx hb dX7_findLeast_2 rfl (lv_at hl 1 rfl) ?_
      refine lv_aload_n hx hb dX7_findLeast_3 rfl (lv_at hl 0 rfl) ?_
      refine zg_7_columns hx hb hts i7 hown hK hP (hts _ (List.mem_of_getElem? (i := 1) rfl)) dX7_findLeast_4 ?_
      refine lv_icmp_ge (tgt := 130) hx hb dX7_findLeast_7 (by decide) (fun c_7 => ?_) (fun c_7 => ?_)
      · have hm := hm.1 c_7
        exact b130  S _ _ _ hm hP hS (lv_sub hl [0] rfl)
      · have hm := hm.2 c_7
        refine lv_aload_n hx hb dX7_findLeast_10 rfl (lv_at hl 0 rfl) ?_
        refine zg_7_low hx hb hts i7 hown hK hP (hts _ (List.mem_of_getElem? (i := 2) rfl)) dX7_findLeast_11 ?_
        refine lv_iload_n hx hb dX7_findLeast_14 rfl (lv_at hl 1 rfl) ?_
        obtain ⟨h_15, hm⟩ := hm
        refine z_iald hx hb hK hP zI_72 h_15 dX7_findLeast_15 ?_
        refine lv_topi (fun x2_16 ex2_16 => ?_)
        have hm := hm x2_16 ex2_16
        refine lv_istore_n (lv' := [(2, .int x2_16), (0, .ref (a 61)), (1, .int x1)]) hx hb dX7_findLeast_16 rfl hl (by decide) rfl (fun ls hl => ?_)
        refine lv_aload_n hx hb dX7_findLeast_17 rfl (lv_at hl 1 rfl) ?_
        refine zg_7_high hx hb hts i7 hown hK hP (hts _ (List.mem_of_getElem? (i := 3) rfl)) dX7_findLeast_18 ?_
        refine lv_iload_n hx hb dX7_findLeast_21 rfl (lv_at hl 2 rfl) ?_
        obtain ⟨h_22, hm⟩ := hm
        refine z_iald hx hb hK hP zI_73 h_22 dX7_findLeast_22 ?_
        refine lv_topi (fun x3_23 ex3_23 => ?_)
        have hm := hm x3_23 ex3_23
        refine lv_istore_n (lv' := [(3, .int x3_23), (2, .int x2_16), (0, .ref (a 61)), (1, .int x1)]) hx hb dX7_findLeast_23 rfl hl (by decide) rfl (fun ls hl => ?_)
        refine lv_iconst (v := (0 : Int32)) hx hb dX7_findLeast_24 (by decide) ?_
        refine lv_istore (lv' := [(4, .int (0 : Int32)), (3, .int x3_23), (2, .int x2_16), (0, .ref (a 61)), (1, .int x1)]) hx hb dX7_findLeast_25 hl (by decide) rfl (fun ls hl => ?_)
        obtain ⟨n27, hm⟩ := hm
        exact L27 x1 n27 x2_16 x3_23 (0 : Int32) S _ _ _ hm hP hS (lv_sub hl [3, 4, 2, 1, 0] rfl)
  unfold X7_findLeast at hm
  refine lv_iconst (v := (0 : Int32)) hx hb dX7_findLeast_0 (by decide) ?_
  refine lv_istore_n (lv' := [(1, .int (0 : Int32)), (0, .ref (a 61))]) hx hb dX7_findLeast_1 rfl hl (by decide) rfl (fun ls hl => ?_)
  obtain ⟨n2, hm⟩ := hm
  exact L2 n2 (0 : Int32) S _ _ _ hm hP hS (lv_sub hl [1, 0] rfl)

abbrev rm_X7_edge : Room := { frames := 0, cells := 0, slots := 0, locals := 0 }
def X7_edge (y1 : Int32) (y2 : Int32) (y3 : Int64) (y5 : Int32) (S : ZS) (Q : ZS → Prop) : Prop :=
  vp_in (S.1 61 20) 60 ∧ ∀ S_9 : ZS, S_9 = zu S 75 ((S.1 61 20)).toNatClampNeg y1 → vp_in (S_9.1 61 20) 60 ∧ ∀ S_19 : ZS, S_19 = zu S_9 76 ((S_9.1 61 20)).toNatClampNeg y2 → vp_in (S_19.1 61 20) 60 ∧ ∀ S_29 : ZS, S_29 = zw S_19 77 ((S_19.1 61 20)).toNatClampNeg y3 → vp_in (S_29.1 61 20) 60 ∧ ∀ S_40 : ZS, S_40 = zu S_29 78 ((S_29.1 61 20)).toNatClampNeg y5 → ∀ S_48 : ZS, S_48 = zu S_40 61 20 ((S_40.1 61 20) + (1 : Int32)) → Q S_48
set_option maxHeartbeats 4000000 in
set_option maxRecDepth 100000 in
theorem c_X7_edge (l : Launch) (D : va_G) (k : Nat → ClassId) (a : Nat → Nat) (hj : zDj a) (y1 : Int32) (y2 : Int32) (y3 : Int64) (y5 : Int32) (S : ZS) (Q : ZS → Prop) (hm : X7_edge y1 y2 y3 y5 S Q) (sz : Nat) : Met l yX7_edge wsX7_edge rm_X7_edge (zPc D k a [.ref (a 61), .int y1, .int y2, .long y3, .int y5] S sz) (va_Qv Q (zB D k a) (zA a sz)) 0 0 (zA a sz) := by
  refine Met.ofW (cc := cX7_edge) (maxL := 6) (ret := none) (by decide) rfl ?_
  intro p e s m args below meth c s₁ B hml hv
  obtain ⟨rfl, hsz, hP, hK⟩ := hv
  have hx := B.exec
  have hb := B.bytes
  have hr := B.returns
  have hts := atoms_spec (ws := wsX7_edge) B.pre
  have hown : s.vm.findClass RX7 = some m.cls := findClass_of_methodNamed B.named
  have hlocks := B.notSynchronized
  subst hsz
  have hS : va_S (zA a s.heap.size) s.heap s.heap [] := va_S.rf
  have hF : CallFix p m c cX7_edge 6 s _ wsX7_edge RX7 := ⟨hx, hb, hml, hown, hts⟩
  have i7 : ∀ w ∈ wsX70, w ∈ wsX7_edge := fun _ h => (List.mem_cons_of_mem _ (List.mem_append_right _ h))
  have hl := lv_entry ([.ref (a 61), .int y1, .int y2, .long y3, .int y5]) (n := 6) (Nat.le_of_ble_eq_true rfl)
  rw [lg_entry_eq]
  generalize (lg_sl ([.ref (a 61), .int y1, .int y2, .long y3, .int y5]) ++ List.replicate (6 - (lg_sl ([.ref (a 61), .int y1, .int y2, .long y3, .int y5])).length) Slot.unset).toArray = ls at hl ⊢
  have hl : lv_has ls 6 [(0, .ref (a 61)), (1, .int y1), (2, .int y2), (3, .long y3), (5, .int y5)] := hl
  unfold X7_edge at hm
  refine lv_aload_n hx hb dX7_edge_0 rfl (lv_at hl 0 rfl) ?_
  refine zg_7_edgeFrom hx hb hts i7 hown hK hP (hts _ (List.mem_of_getElem? (i := 1) rfl)) dX7_edge_1 ?_
  refine lv_aload_n hx hb dX7_edge_4 rfl (lv_at hl 0 rfl) ?_
  refine zg_7_edges hx hb hts i7 hown hK hP (hts _ (List.mem_of_getElem? (i := 2) rfl)) dX7_edge_5 ?_
  refine lv_iload_n hx hb dX7_edge_8 rfl (lv_at hl 1 rfl) ?_
  obtain ⟨h_9, hm⟩ := hm
  refine z_iast hx hb hj hK hP hS zI_75 h_9 dX7_edge_9 (fun H locs hP hS => ?_)
  obtain ⟨S_9, eS_9⟩ : ∃ z : ZS, z = zu S 75 ((S.1 61 20)).toNatClampNeg y1 := ⟨_, rfl⟩
  rw [← eS_9] at hP
  have hm := hm S_9 eS_9
  refine lv_aload_n hx hb dX7_edge_10 rfl (lv_at hl 0 rfl) ?_
  refine zg_7_edgeTo hx hb hts i7 hown hK hP (hts _ (List.mem_of_getElem? (i := 3) rfl)) dX7_edge_11 ?_
  refine lv_aload_n hx hb dX7_edge_14 rfl (lv_at hl 0 rfl) ?_
  refine zg_7_edges hx hb hts i7 hown hK hP (hts _ (List.mem_of_getElem? (i := 2) rfl)) dX7_edge_15 ?_
  refine lv_iload_n hx hb dX7_edge_18 rfl (lv_at hl 2 rfl) ?_
  obtain ⟨h_19, hm⟩ := hm
  refine z_iast hx hb hj hK hP hS zI_76 h_19 dX7_edge_19 (fun H locs hP hS => ?_)
  obtain ⟨S_19, eS_19⟩ : ∃ z : ZS, z = zu S_9 76 ((S_9.1 61 20)).toNatClampNeg y2 := ⟨_, rfl⟩
  rw [← eS_19] at hP
  have hm := hm S_19 eS_19
  refine lv_aload_n hx hb dX7_edge_20 rfl (lv_at hl 0 rfl) ?_
  refine zg_7_edgeCost hx hb hts i7 hown hK hP (hts _ (List.mem_of_getElem? (i := 4) rfl)) dX7_edge_21 ?_
  refine lv_aload_n hx hb dX7_edge_24 rfl (lv_at hl 0 rfl) ?_
  refine zg_7_edges hx hb hts i7 hown hK hP (hts _ (List.mem_of_getElem? (i := 2) rfl)) dX7_edge_25 ?_
  refine lv_lload_n hx hb dX7_edge_28 rfl (lv_at hl 3 rfl) ?_
  obtain ⟨h_29, hm⟩ := hm
  refine z_last hx hb hj hK hP hS zJ_77 h_29 dX7_edge_29 (fun H locs hP hS => ?_)
  obtain ⟨S_29, eS_29⟩ : ∃ z : ZS, z = zw S_19 77 ((S_19.1 61 20)).toNatClampNeg y3 := ⟨_, rfl⟩
  rw [← eS_29] at hP
  have hm := hm S_29 eS_29
  refine lv_aload_n hx hb dX7_edge_30 rfl (lv_at hl 0 rfl) ?_
  refine zg_7_edgeOf hx hb hts i7 hown hK hP (hts _ (List.mem_of_getElem? (i := 5) rfl)) dX7_edge_31 ?_
  refine lv_aload_n hx hb dX7_edge_34 rfl (lv_at hl 0 rfl) ?_
  refine zg_7_edges hx hb hts i7 hown hK hP (hts _ (List.mem_of_getElem? (i := 2) rfl)) dX7_edge_35 ?_
  refine lv_iload hx hb dX7_edge_38 (lv_at hl 4 rfl) ?_
  obtain ⟨h_40, hm⟩ := hm
  refine z_iast hx hb hj hK hP hS zI_78 h_40 dX7_edge_40 (fun H locs hP hS => ?_)
  obtain ⟨S_40, eS_40⟩ : ∃ z : ZS, z = zu S_29 78 ((S_29.1 61 20)).toNatClampNeg y5 := ⟨_, rfl⟩
  rw [← eS_40] at hP
  have hm := hm S_40 eS_40
  refine lv_aload_n hx hb dX7_edge_41 rfl (lv_at hl 0 rfl) ?_
  refine lv_dup hx hb dX7_edge_42 rfl ?_
  refine zg_7_edges hx hb hts i7 hown hK hP (hts _ (List.mem_of_getElem? (i := 2) rfl)) dX7_edge_43 ?_
  refine lv_iconst (v := (1 : Int32)) hx hb dX7_edge_46 (by decide) ?_
  refine lv_iadd hx hb dX7_edge_47 ?_
  refine zp_7_edges hx hb hts i7 hown hj hK hP hS (hts _ (List.mem_of_getElem? (i := 2) rfl)) dX7_edge_48 (fun H locs hP hS => ?_)
  obtain ⟨S_48, eS_48⟩ : ∃ z : ZS, z = zu S_40 61 20 ((S_40.1 61 20) + (1 : Int32)) := ⟨_, rfl⟩
  rw [← eS_48] at hP
  have hm := hm S_48 eS_48
  exact z_retv hx hb hr hlocks hP hS hm dX7_edge_51

abbrev rm_X7_endOf : Room := { frames := 1, cells := 0, slots := 0, locals := 22 }
def X7_endOf_b49 (x3 : Int32) (S : ZS) (Q : Int32 → ZS → Prop) : Prop :=
  Q x3 S
def X7_endOf_b42 (x1 : Int32) (x2 : Int32) (x4 : Int32) (t0 : Int32) (S : ZS) (Q : Int32 → ZS → Prop) (k8 : Int32 × Int32 × ZS → Prop) : Prop :=
  ∀ x4_43 : Int32, x4_43 = x4 + (1 : Int32) → k8 (t0, x4_43, S)
def X7_endOf_B8 (x1 : Int32) (x2 : Int32) (x3 : Int32) (x4 : Int32) (S : ZS) (Q : Int32 → ZS → Prop) (k8 : Int32 × Int32 × ZS → Prop) : Prop :=
  ((S.1 61 2) ≤ x4 → X7_endOf_b49 x3 S Q) ∧ (¬ (S.1 61 2) ≤ x4 → X7_coef x4 x1 S (fun r_21 S_21 => vp_in x4 8 ∧ ((r_21 * (S_21.1 71 (x4).toNatClampNeg)) = x2 → X7_endOf_b42 x1 x2 x4 x4 S_21 Q k8) ∧ (¬ (r_21 * (S_21.1 71 (x4).toNatClampNeg)) = x2 → X7_endOf_b42 x1 x2 x4 x3 S_21 Q k8)))
def X7_endOf_L8 (x1 : Int32) (x2 : Int32) (Q : Int32 → ZS → Prop) : (Int32 × Int32 × ZS) → ((Int32 × Int32 × ZS) → Prop) → Prop := fun st k8 => X7_endOf_B8 x1 x2 st.1 st.2.1 st.2.2 Q k8
def X7_endOf (y1 : Int32) (y2 : Int32) (S : ZS) (Q : Int32 → ZS → Prop) : Prop :=
  ∀ x3_4 : Int32, x3_4 = (S.1 61 2) → zl (X7_endOf_L8 y1 y2 Q) (x3_4, (0 : Int32), S)
set_option maxHeartbeats 4000000 in
set_option maxRecDepth 100000 in
theorem c_X7_endOf (l : Launch) (D : va_G) (k : Nat → ClassId) (a : Nat → Nat) (hj : zDj a) (y1 : Int32) (y2 : Int32) (S : ZS) (Q : Int32 → ZS → Prop) (hm : X7_endOf y1 y2 S Q) (sz : Nat) : Met l yX7_endOf wsX7_endOf rm_X7_endOf (zPc D k a [.ref (a 61), .int y1, .int y2] S sz) (va_Qi Q (zB D k a) (zA a sz)) 0 0 (zA a sz) := by
  refine Met.ofW (cc := cX7_endOf) (maxL := 5) (ret := (some .int)) (by decide) rfl ?_
  intro p e s m args below meth c s₁ B hml hv
  obtain ⟨rfl, hsz, hP, hK⟩ := hv
  have hx := B.exec
  have hb := B.bytes
  have hr := B.returns
  have hts := atoms_spec (ws := wsX7_endOf) B.pre
  have hown : s.vm.findClass RX7 = some m.cls := findClass_of_methodNamed B.named
  have hlocks := B.notSynchronized
  subst hsz
  have hS : va_S (zA a s.heap.size) s.heap s.heap [] := va_S.rf
  have hF : CallFix p m c cX7_endOf 5 s _ wsX7_endOf RX7 := ⟨hx, hb, hml, hown, hts⟩
  have i7 : ∀ w ∈ wsX70, w ∈ wsX7_endOf := fun _ h => (List.mem_cons_of_mem _ (List.mem_append_right _ h))
  have hl := lv_entry ([.ref (a 61), .int y1, .int y2]) (n := 5) (Nat.le_of_ble_eq_true rfl)
  rw [lg_entry_eq]
  generalize (lg_sl ([.ref (a 61), .int y1, .int y2]) ++ List.replicate (5 - (lg_sl ([.ref (a 61), .int y1, .int y2])).length) Slot.unset).toArray = ls at hl ⊢
  have hl : lv_has ls 5 [(0, .ref (a 61)), (1, .int y1), (2, .int y2)] := hl
  have b49 : ∀ (x3 : Int32) (S : ZS) (H : Heap) (locs : List Loc) (ls : Array Slot), X7_endOf_b49 x3 S Q → va_P D vwCl (zWS k a S) H → va_S (zA a s.heap.size) s.heap H locs → lv_has ls 5 [(0, .ref (a 61)), (3, .int x3)] → zWi p l e (headSpec wsX7_endOf rm_X7_endOf).room s m ([.ref (a 61), .int y1, .int y2] : List Value) below meth c D k a Q H locs (F0 m 49 ls []) := by
    intro x3 S H locs ls hm hP hS hl
    unfold X7_endOf_b49 at hm
    refine lv_iload_n hx hb dX7_endOf_49 rfl (lv_at hl 1 rfl) ?_
    exact z_reti hx hb hr hlocks hP hS hm dX7_endOf_50
  have L8 : ∀ (x1 : Int32) (x2 : Int32) (n : Nat) (x3 : Int32) (x4 : Int32) (S : ZS) (H : Heap) (locs : List Loc) (ls : Array Slot), zn (X7_endOf_L8 x1 x2 Q) n (x3, x4, S) → va_P D vwCl (zWS k a S) H → va_S (zA a s.heap.size) s.heap H locs → lv_has ls 5 [(0, .ref (a 61)), (1, .int x1), (2, .int x2), (3, .int x3), (4, .int x4)] → zWi p l e (headSpec wsX7_endOf rm_X7_endOf).room s m ([.ref (a 61), .int y1, .int y2] : List Value) below meth c D k a Q H locs (F0 m 8 ls []) := by
    intro x1 x2 n
    induction n with
    | zero =>
      intro x3 x4 S H locs ls hm
      exact hm.elim
    | succ n ih8 =>
      intro x3 x4 S H locs ls hm hP hS hl
      have hm : X7_endOf_B8 x1 x2 x3 x4 S Q (zn (X7_endOf_L8 x1 x2 Q) n) := hm
      generalize zn (X7_endOf_L8 x1 x2 Q) n = k8 at hm ih8
      unfold X7_endOf_B8 at hm
      have b42 : ∀ (x4 : Int32) (t0 : Int32) (S : ZS) (H : Heap) (locs : List Loc) (ls : Array Slot), X7_endOf_b42 x1 x2 x4 t0 S Q k8 → va_P D vwCl (zWS k a S) H → va_S (zA a s.heap.size) s.heap H locs → lv_has ls 5 [(0, .ref (a 61)), (1, .int x1), (2, .int x2), (4, .int x4)] → zWi p l e (headSpec wsX7_endOf rm_X7_endOf).room s m ([.ref (a 61), .int y1, .int y2] : List Value) below meth c D k a Q H locs (F0 m 42 ls [.int t0]) := by
        intro x4 t0 S H locs ls hm hP hS hl
        unfold X7_endOf_b42 at hm
        refine lv_istore_n (lv' := [(3, .int t0), (0, .ref (a 61)), (1, .int x1), (2, .int x2), (4, .int x4)]) hx hb dX7_endOf_42 rfl hl (by decide) rfl (fun ls hl => ?_)
        obtain ⟨x4_43, ex4_43⟩ : ∃ y : Int32, y = x4 + (1 : Int32) := ⟨_, rfl⟩
        have hm := hm x4_43 ex4_43
        refine lv_iinc (v := x4_43) (lv' := [(4, .int x4_43), (3, .int t0), (0, .ref (a 61)), (1, .int x1), (2, .int x2)]) hx hb dX7_endOf_43 hl (k := 4) rfl (by rw [ex4_43]; rfl) (by decide) rfl (fun ls hl => ?_)
        refine lv_goto (tgt := 8) hx hb dX7_endOf_46 (by decide) ?_
        exact ih8 t0 x4_43 S _ _ _ hm hP hS (lv_sub hl [2, 3, 4, 1, 0] rfl)
      refine lv_iload hx hb dX7_endOf_8 (lv_at hl 4 rfl) ?_
      refine lv_aload_n hx hb dX7_endOf_10 rfl (lv_at hl 0 rfl) ?_
      refine zg_7_rows hx hb hts i7 hown hK hP (hts _ (List.mem_of_getElem? (i := 1) rfl)) dX7_endOf_11 ?_
      refine lv_icmp_ge (tgt := 49) hx hb dX7_endOf_14 (by decide) (fun c_14 => ?_) (fun c_14 => ?_)
      · have hm := hm.1 c_14
        exact b49 x3 S _ _ _ hm hP hS (lv_sub hl [0, 3] rfl)
      · have hm := hm.2 c_14
        refine lv_aload_n hx hb dX7_endOf_17 rfl (lv_at hl 0 rfl) ?_
        refine lv_iload hx hb dX7_endOf_18 (lv_at hl 4 rfl) ?_
        refine lv_iload_n hx hb dX7_endOf_20 rfl (lv_at hl 1 rfl) ?_
        refine z_cVi (As := [.int x4, .int x1]) (rest := []) hF hK hP hS zO_61 rfl rfl (c_X7_coef l D k a hj x4 x1 S _ hm _) (cwV 2 hts gX7_endOf_X7_coef rfl rfl rfl (by decide +kernel) ⟨Nat.le_of_ble_eq_true rfl, Nat.le_of_ble_eq_true rfl⟩) rfl hl.1 rfl (Nat.le_of_ble_eq_true rfl) dX7_endOf_21 ⟨Nat.zero_le _, Nat.zero_le _⟩ (fun r_21 S_21 H locs hm hP hS => ?_)
        refine lv_aload_n hx hb dX7_endOf_24 rfl (lv_at hl 0 rfl) ?_
        refine zg_7_signs hx hb hts i7 hown hK hP (hts _ (List.mem_of_getElem? (i := 2) rfl)) dX7_endOf_25 ?_
        refine lv_iload hx hb dX7_endOf_28 (lv_at hl 4 rfl) ?_
        obtain ⟨h_30, hm⟩ := hm
        refine z_iald hx hb hK hP zI_71 h_30 dX7_endOf_30 ?_
        refine lv_imul hx hb dX7_endOf_31 ?_
        refine lv_iload_n hx hb dX7_endOf_32 rfl (lv_at hl 2 rfl) ?_
        refine lv_icmp_ne (tgt := 41) hx hb dX7_endOf_33 (by decide) (fun c_33 => ?_) (fun c_33 => ?_)
        · have hm := hm.2 c_33
          refine lv_iload_n hx hb dX7_endOf_41 rfl (lv_at hl 3 rfl) ?_
          exact b42 x4 x3 S_21 _ _ _ hm hP hS (lv_sub hl [0, 1, 2, 4] rfl)
        · have hm := hm.1 c_33
          refine lv_iload hx hb dX7_endOf_36 (lv_at hl 4 rfl) ?_
          refine lv_goto (tgt := 42) hx hb dX7_endOf_38 (by decide) ?_
          exact b42 x4 x4 S_21 _ _ _ hm hP hS (lv_sub hl [0, 1, 2, 4] rfl)
  unfold X7_endOf at hm
  refine lv_aload_n hx hb dX7_endOf_0 rfl (lv_at hl 0 rfl) ?_
  refine zg_7_rows hx hb hts i7 hown hK hP (hts _ (List.mem_of_getElem? (i := 1) rfl)) dX7_endOf_1 ?_
  refine lv_topi (fun x3_4 ex3_4 => ?_)
  have hm := hm x3_4 ex3_4
  refine lv_istore_n (lv' := [(3, .int x3_4), (0, .ref (a 61)), (1, .int y1), (2, .int y2)]) hx hb dX7_endOf_4 rfl hl (by decide) rfl (fun ls hl => ?_)
  refine lv_iconst (v := (0 : Int32)) hx hb dX7_endOf_5 (by decide) ?_
  refine lv_istore (lv' := [(4, .int (0 : Int32)), (3, .int x3_4), (0, .ref (a 61)), (1, .int y1), (2, .int y2)]) hx hb dX7_endOf_6 hl (by decide) rfl (fun ls hl => ?_)
  obtain ⟨n8, hm⟩ := hm
  exact L8 y1 y2 n8 x3_4 (0 : Int32) S _ _ _ hm hP hS (lv_sub hl [2, 3, 4, 1, 0] rfl)

