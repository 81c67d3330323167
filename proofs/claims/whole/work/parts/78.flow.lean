/-! flow(), sign() -/
theorem good_iff {A : Nat → Nat → Int} {nr nc j : Nat} {M : Nat → Nat} {s : Nat → Int} (hP : zP nr (cJ (tr A) nr nc) M) (hG : sG A nr nc M s) : (sDs A nr nc (fset j) ∧ ∀ r, r < nr → M r = r → j.testBit r = false) ↔ ∀ r, r < nr → fset j r = s r := by
  refine ⟨fun h r hr => ?_, fun h => ⟨(sDs_congr h).mpr hG.2.2.1, fun r hr e => ?_⟩⟩
  · have h1 := hG.2.2.2 _ (fset_sgn j nr) h.1 r hr
    have mm : M (M r) = M r := hP.2.2 M hP.2.1 r hr
    have ml := hP.1 r hr
    have h2 := h.2 (M r) (by omega) mm
    have h3 : fset j (M r) = 1 := by unfold fset; rw [h2]; rfl
    rw [h1, h3, Int.mul_one]
  · have h1 := hG.2.1 r hr
    rw [e] at h1
    have h2 := h r hr
    rw [h1] at h2
    unfold fset at h2
    cases hb : j.testBit r
    · rfl
    · rw [hb] at h2
      exact absurd h2 (by decide)
theorem x7_findSigns {nc nr : Nat} {S : ZS} {Q : ZS → Prop} {M : Nat → Nat} {s : Nat → Int} (h1 : nc ≤ 10) (h2 : nr ≤ 8) (h5 : S.1 61 1 = nI nc) (h6 : S.1 61 2 = nI nr) (hb : ∀ r c, r < nr → c < nc → -100 ≤ aR S r c ∧ aR S r c ≤ 100) (hP : zP nr (cJ (tr (aR S)) nr nc) M) (hG : sG (aR S) nr nc M s)
    (q : ∀ T, zQ2 70 71 S T → (∀ r, r < nr → T.1 70 r = nI (M r)) → (∀ r, r < nr → (T.1 71 r).toInt = s r) → Q T) : X7_findSigns S Q := by
  have hp := pow_le h2
  unfold X7_findSigns
  refine x7_findParts (M := M) h1 h2 h5 h6 (hP.congr (fun f => cJ_congr (fun r d _ _ => by unfold tr; exact (not_congr aR_0).symm))) (fun S1 hS1 h70 x ex => ?_)
  rw [hS1.2 61 (by decide), h6, two_pow nr h2] at ex
  subst ex
  refine zl_dm (2 ^ nr) (fun i T => zQ1 71 S1 T ∧ ((∃ j, i ≤ j ∧ j < 2 ^ nr ∧ ∀ r, r < nr → fset j r = s r) → ∀ r, r < nr → (T.1 71 r).toInt = s r)) (by omega) (fun i T k hi hJ hk => ?_) S1 ⟨zQ1.rf S1, fun ⟨j, a, b, _⟩ => by omega⟩
  obtain ⟨hx, hj⟩ := hJ
  have e61 : T.1 61 = S.1 61 := (hx.2 61 (by decide)).trans (hS1.2 61 (by decide))
  have e67 : T.1 67 = S.1 67 := (hx.2 67 (by decide)).trans (hS1.2 67 (by decide))
  have e70 : T.1 70 = S1.1 70 := hx.2 70 (by decide)
  have eA : aR T = aR S := by unfold aR; rw [e67]
  show X7_findSigns_B13 (nI i - 1) T Q k
  unfold X7_findSigns_B13 X7_findSigns_b117
  rw [e61, h5]
  refine ⟨fun g => ?_, fun g => ?_⟩
  · have i0 : i = 0 := by
      refine Classical.byContradiction (fun w => ?_)
      obtain ⟨j, rfl⟩ : ∃ j, i = j + 1 := ⟨i - 1, by omega⟩
      rw [nI_pred] at g
      exact absurd g (nI_pos (by omega))
    obtain ⟨j, b1, b2⟩ := sgn_set hG.1
    refine q T ⟨hx.1.trans hS1.1, fun n a b => (hx.2 n b).trans (hS1.2 n a)⟩ (fun r hr => by rw [e70]; exact h70 r hr) (hj ⟨j, by omega, b1, b2⟩)
  · have i0 : i ≠ 0 := by
      intro e
      subst e
      exact g (by decide)
    obtain ⟨j, rfl⟩ : ∃ j, i = j + 1 := ⟨i - 1, by omega⟩
    rw [nI_pred]
    have hj8 : j < 256 := by omega
    -- the loop behind: keep or write
    have wr : ∀ x2 : Int32, zbit x2 → (x2 = 1 ↔ ∀ r, r < nr → fset j r = s r) → X7_findSigns_b71 (nI j) x2 T Q k := by
      intro x2 hz hx2
      unfold X7_findSigns_b71
      refine zl_up nr (fun r U => zQ1 71 T U ∧ (x2 = 0 → U = T) ∧ (x2 = 1 → ∀ p, p < r → (U.1 71 p).toInt = s p)) (by omega) (fun r U k2 hr hJ hk2 => ?_) T ⟨zQ1.rf T, fun _ => rfl, fun _ p hp => by omega⟩
      obtain ⟨hU, u0, u1⟩ := hJ
      show X7_findSigns_B73 (nI j) x2 (nI r) U Q k k2
      unfold X7_findSigns_B73 X7_findSigns_b111 X7_findSigns_b104
      rw [hU.2 61 (by decide), e61, h6]
      have out : (x2 = 0 ∨ r = nr) → ∀ y : Int32, y = nI j + (-1 : Int32) → k (y, U) := by
        intro ho y ey
        rw [← Int32.sub_eq_add_neg] at ey
        subst ey
        refine hk j rfl U ⟨hx.tr hU, fun ⟨m, m1, m2, m3⟩ => ?_⟩
        by_cases e : x2 = 0
        · rw [u0 e]
          refine hj ⟨m, ?_, m2, m3⟩
          by_cases em : m = j
          · rw [em] at m3
            have := hx2.mpr m3
            rw [e] at this
            exact absurd this (by decide)
          · omega
        · have er := ho.elim (fun w => absurd w e) id
          rw [er] at u1
          exact u1 (hz.elim (fun w => absurd w e) id)
      refine ⟨fun z => out (Or.inr (up_end (by omega) hr z)), fun z => ⟨fun g2 => out (Or.inl g2), fun g2 => ?_⟩⟩
      have hlt := up_on (by omega) hr z
      have e1 := hz.elim (fun w => absurd w g2) id
      have go : ∀ t : Int32, t.toInt = s r → vp_in (nI r) 8 ∧ ∀ S_104 : ZS, S_104 = zu U 71 (nI r).toNatClampNeg t → ∀ x3 : Int32, x3 = nI r + (1 : Int32) → k2 (x3, S_104) := by
        intro t ht
        refine ⟨vp_in_nI (by omega) (by omega), fun V eV w ew => ?_⟩
        rw [nI_1] at ew
        subst ew
        rw [nI_clamp (by omega)] at eV
        refine hk2 hlt V ⟨by rw [eV]; exact hU.u, fun e => absurd e g2, fun _ p hp => ?_⟩
        rw [eV, zu_at]
        by_cases e : p = r
        · rw [if_pos ⟨rfl, e⟩, ht, e]
        · rw [if_neg (by omega)]; exact u1 e1 p (by omega)
      have hf := hx2.mp e1 r hlt
      rw [(bit_at j hj8 r (by omega)).1]
      refine ⟨fun g3 => go _ ?_, fun g3 => go _ ?_⟩
      · rw [← hf]; unfold fset; rw [if_pos g3]; decide
      · rw [← hf]; unfold fset; rw [if_neg g3]; decide
    -- the loop ahead: whether least rows have sign 1
    have chk : ∀ y : Int32, zbit y → (y = 1 ↔ sDs (aR S) nr nc (fset j)) → zl (X7_findSigns_L29 (nI j) Q k) (y, (0 : Int32), T) := by
      intro y hz hy
      refine zl_up2 nr (fun r x U => U = T ∧ zbit x ∧ (x = 1 ↔ sDs (aR S) nr nc (fset j) ∧ ∀ p, p < r → M p = p → j.testBit p = false)) (by omega) (fun r x U k2 hr hJ hk2 => ?_) y T ⟨rfl, hz, hy.trans ⟨fun h => ⟨h, fun p hp => by omega⟩, fun h => h.1⟩⟩
      obtain ⟨rfl, hzx, hxx⟩ := hJ
      show X7_findSigns_B29 (nI j) x (nI r) U Q k k2
      unfold X7_findSigns_B29
      rw [e61, h6]
      refine ⟨fun z => ?_, fun z => ?_⟩
      · have := up_end (by omega) hr z
        subst this
        exact wr x hzx (hxx.trans (good_iff hP hG))
      · have hlt := up_on (by omega) hr z
        have ml := hP.1 r hlt
        have fin : ∀ v w : Int32, zbit v → (v = 1 ↔ sDs (aR S) nr nc (fset j) ∧ ∀ p, p < r + 1 → M p = p → j.testBit p = false) → w = nI r + 1 → k2 (v, w, U) := by
          intro v w e1 e2 ew
          rw [nI_1] at ew
          subst ew
          exact hk2 hlt _ _ ⟨rfl, e1, e2⟩
        have no : ¬ (sDs (aR S) nr nc (fset j) ∧ ∀ p, p < r + 1 → M p = p → j.testBit p = false) → ((0 : Int32) = 1 ↔ sDs (aR S) nr nc (fset j) ∧ ∀ p, p < r + 1 → M p = p → j.testBit p = false) := fun h => ⟨fun e => absurd e (by decide), fun e => absurd e h⟩
        have yes : ¬ x = 0 → (M r = r → j.testBit r = false) → ((1 : Int32) = 1 ↔ sDs (aR S) nr nc (fset j) ∧ ∀ p, p < r + 1 → M p = p → j.testBit p = false) := fun h0 h => by
          have h3 := hxx.mp (hzx.elim (fun w => absurd w h0) id)
          refine ⟨fun _ => ⟨h3.1, fun p hp e => ?_⟩, fun _ => rfl⟩
          by_cases e2 : p = r
          · rw [e2] at e ⊢; exact h e
          · exact h3.2 p (by omega) e
        unfold X7_findSigns_b63 X7_findSigns_b59 X7_findSigns_b64
        rw [nI_clamp (by omega), (bit_at j hj8 r (by omega)).2, e70, h70 r hlt, nI_eq (by omega) (by omega)]
        refine ⟨fun g2 w ew => fin _ w (Or.inl rfl) (no (fun h => ?_)) ew, fun g2 => ⟨vp_in_nI (by omega) (by omega), fun g3 => ⟨fun g4 w ew => fin _ w (Or.inr rfl) (yes g2 (fun _ => g4)) ew, fun g4 w ew => fin _ w (Or.inl rfl) (no (fun h => g4 (h.2 r (by omega) g3))) ew⟩, fun g3 w ew => fin _ w (Or.inr rfl) (yes g2 (fun e => absurd e g3)) ew⟩⟩
        have := hxx.mpr ⟨h.1, fun p hp => h.2 p (by omega)⟩
        rw [g2] at this
        exact absurd this (by decide)
    refine x7_signsDo (nc := nc) (nr := nr) (by rw [e61]; exact h6) h1 h2 (Nat.le_refl _) (by omega) (by rw [eA]; exact hb) (fun w => chk 1 (Or.inr rfl) ⟨fun _ => by rw [← eA]; exact w, fun _ => rfl⟩) (fun w => chk 0 (Or.inl rfl) ⟨fun e => absurd e (by decide), fun e => absurd (by rw [eA]; exact e) w⟩)
/-- the two sides' coefficients -/
theorem zC.bd {S : ZS} {nc nr : Nat} (h : zC S nc nr) : ∀ r c, r < nr → c < nc → aR S r c = aC S r c ∧ -100 ≤ aR S r c ∧ aR S r c ≤ 100 := by
  obtain ⟨h1, h2, h3, h4, h5, h6, h7, h8, h9, h10, h11⟩ := h
  intro r c hr hc
  have e : aR S r c = aC S r c := by unfold aR aC; rw [h9 r c hr hc]
  have := h10 r c (by omega) (by omega)
  unfold zlim at this
  rw [e]
  exact ⟨rfl, this⟩
theorem tms_congr {A B : Nat → Nat → Int} {nr c : Nat} (h : ∀ r, r < nr → A r c = B r c) : tms A nr c = tms B nr c := cnt_congr (fun r hr => by rw [h r hr])
theorem pln_congr {A B : Nat → Nat → Int} {nr c : Nat} (h : ∀ r, r < nr → A r c = B r c) : pln A nr c ↔ pln B nr c := by
  unfold pln
  rw [tms_congr h]
  exact ⟨fun g => ⟨fun r hr => by rw [← h r hr]; exact g.1 r hr, g.2⟩, fun g => ⟨fun r hr => by rw [h r hr]; exact g.1 r hr, g.2⟩⟩
theorem sD_cA {A B : Nat → Nat → Int} {nr c : Nat} {f : Nat → Int} (h : ∀ r, r < nr → A r c = B r c) : sD A nr c f ↔ sD B nr c f := by
  unfold sD
  rw [tms_congr h, sI_congr (fun r hr => by rw [h r hr])]
theorem sDs_cA {A B : Nat → Nat → Int} {nr nc c : Nat} {f : Nat → Int} (h : ∀ r c, r < nr → c < nc → A r c = B r c) (hc : c ≤ nc) : sDs A nr c f ↔ sDs B nr c f := ⟨fun g d hd => (sD_cA (fun r hr => h r d hr (by omega))).mp (g d hd), fun g d hd => (sD_cA (fun r hr => h r d hr (by omega))).mpr (g d hd)⟩
theorem sEx_cA {A B : Nat → Nat → Int} {nr nc c : Nat} (h : ∀ r c, r < nr → c < nc → A r c = B r c) (hc : c ≤ nc) : sEx A nr c ↔ sEx B nr c := ⟨fun ⟨f, a, b⟩ => ⟨f, a, (sDs_cA h hc).mp b⟩, fun ⟨f, a, b⟩ => ⟨f, a, (sDs_cA h hc).mpr b⟩⟩
theorem sG_cA {A B : Nat → Nat → Int} {nr nc : Nat} {L : Nat → Nat} {s : Nat → Int} (h : ∀ r c, r < nr → c < nc → A r c = B r c) (g : sG A nr nc L s) : sG B nr nc L s := ⟨g.1, g.2.1, (sDs_cA h (Nat.le_refl _)).mp g.2.2.1, fun f a b => g.2.2.2 f a ((sDs_cA h (Nat.le_refl _)).mpr b)⟩
theorem cJ_cA {A B : Nat → Nat → Int} {nr nc : Nat} (h : ∀ r c, r < nr → c < nc → A r c = B r c) (f : Nat → Nat) : cJ (tr A) nr nc f ↔ cJ (tr B) nr nc f := cJ_congr (fun r d hr hd => by unfold tr; rw [h r d hr hd])
theorem fR_cA {A B : Nat → Nat → Int} {nr nc : Nat} {x : Int32} (h : ∀ r c, r < nr → c < nc → A r c = B r c) (g : fR A nr nc x) : fR B nr nc x := by
  have e1 : ∀ c, c < nc → (pln A nr c ↔ pln B nr c) := fun c hc => pln_congr (fun r hr => h r c hr hc)
  rcases g with ⟨c, a1, a2, a3, a4⟩ | ⟨a1, ⟨c, c1, c2, c3, c4⟩ | ⟨c1, c2⟩⟩
  · exact Or.inl ⟨c, a1, fun w => a2 ((e1 c a1).mpr w), fun d hd => (e1 d (by omega)).mp (a3 d hd), a4⟩
  · exact Or.inr ⟨fun c hc => (e1 c hc).mp (a1 c hc), Or.inl ⟨c, c1, (sEx_cA h (by omega)).mp c2, fun w => c3 ((sEx_cA h (by omega)).mpr w), c4⟩⟩
  · exact Or.inr ⟨fun c hc => (e1 c hc).mp (a1 c hc), Or.inr ⟨(sEx_cA h (Nat.le_refl _)).mp c1, c2⟩⟩
/-- both sides' flow reason, over a state that has kept what lasts -/
theorem i7_flowReason {S T : ZS} {nc nr : Nat} {Q : Int32 → ZS → Prop} {x : Int32} (hC : zC S nc nr) (hp : zPer S T) (hx : fR (aC S) nr nc x) (q : Q x T) : X7_flowReason T Q := by
  have hT := hC.per hp
  have e67 : T.1 67 = S.1 67 := (hp.1 67 rfl).1
  have eA : aR T = aR S := by unfold aR; rw [e67]
  have hb := hC.bd
  refine x7_flowReason hT.1 hT.2.1 hT.2.2.2.2.1 hT.2.2.2.2.2.1 (fun r c hr hc => by rw [eA]; exact (hb r c hr hc).2) (fun y hy => ?_)
  rw [eA] at hy
  rw [(fR_cA (fun r c hr hc => (hb r c hr hc).1) hy).uniq hx]
  exact q
theorem i7_findSigns {S T : ZS} {nc nr : Nat} {Q : ZS → Prop} {M : Nat → Nat} {s : Nat → Int} (hC : zC S nc nr) (hp : zPer S T) (hP : zP nr (cJ (tr (aC S)) nr nc) M) (hG : sG (aC S) nr nc M s) (q : ∀ U, zQ2 70 71 T U → (∀ r, r < nr → U.1 70 r = nI (M r)) → (∀ r, r < nr → (U.1 71 r).toInt = s r) → Q U) : X7_findSigns T Q := by
  have hT := hC.per hp
  have e67 : T.1 67 = S.1 67 := (hp.1 67 rfl).1
  have eA : aR T = aR S := by unfold aR; rw [e67]
  have hb := hC.bd
  have hE : ∀ r c, r < nr → c < nc → aC S r c = aR T r c := fun r c hr hc => by rw [eA]; exact (hb r c hr hc).1.symm
  exact x7_findSigns hT.1 hT.2.1 hT.2.2.2.2.1 hT.2.2.2.2.2.1 (fun r c hr hc => by rw [eA]; exact (hb r c hr hc).2) (hP.congr (fun f => cJ_cA hE f)) (sG_cA hE hG) q
theorem i4_findSigns {S : ZS} {nc nr : Nat} {Q : Int32 → ZS → Prop} (hC : zC S nc nr) (q : ∀ x T, zPer S T → fR (aC S) nr nc x → (x = -1 → ∃ L s, fnd S T nr nc L s) → Q x T) : X4_findSigns S Q :=
  x4_findSigns hC.1 hC.2.1 hC.2.2.1 hC.2.2.2.1 (fun x T hT hx hf => q x T (hT.per rfl rfl (by decide) (by decide)) hx hf)
theorem k_9 {y1 y2 y3 : Int32} {S : ZS} {N : ZS → Prop} (h : Inv S) (hN : ∀ T, Inv T → N T) : lawc_9 y1 y2 y3 S N := by
  have hI := h
  obtain ⟨nc, nr, hC, hSol⟩ := h
  unfold lawc_9 X6_flow
  refine i4_findSigns hC (fun x T hp hx _ => ?_)
  unfold X7_flow
  intro U eU
  have hp2 : zPer S U := by rw [eU]; exact hp.u61 (Or.inl rfl)
  exact i7_flowReason hC hp2 hx ⟨fun _ => hN U (hI.per hp2), fun g => absurd rfl g⟩
theorem k_10 {y1 y2 y3 : Int32} {S : ZS} {N : ZS → Prop} (h : Inv S) (hN : ∀ T, Inv T → N T) : lawc_10 y1 y2 y3 S N := by
  have hI := h
  obtain ⟨nc, nr, hC, hSol⟩ := h
  have h2 := hC.2.1
  unfold lawc_10 L_sign X6_sign X7_thrown
  refine i4_findSigns hC (fun x T hp hx hf => ⟨fun ex => ?_, fun ex => Or.inl ⟨rfl, ?_⟩⟩)
  · obtain ⟨L, s, f22, f23, hP, hG⟩ := hf ex
    have hT := hC.per hp
    refine m_needRow hT.2.2.2.1 h2 (fun r hr er => ?_) (fun hno => Or.inr ⟨rfl, ?_⟩)
    · have hin : vp_in y1 8 := by rw [er]; exact vp_in_nI (by omega) (by omega)
      have hcl : y1.toNatClampNeg = r := by rw [er]; exact nI_clamp (by omega)
      refine ⟨hin, fun U eU => ?_⟩
      have hp2 : zPer S U := by rw [eU]; exact hp.w rfl
      unfold X7_sign X7_sign_b14 X7_sign_b27
      refine i7_flowReason hC hp2 hx ⟨fun _ => ?_, fun g => absurd ex g⟩
      refine m_isRow (n := nr) (hC.per hp2).2.2.2.2.2.1 h2 (fun c' hc' ec' => ⟨fun z => absurd z (by decide), fun _ => ?_⟩) (fun hx => absurd er (hx r hr))
      refine m_passes (fun z => absurd rfl z) (fun _ z => absurd rfl z) (fun _ _ => ⟨fun z => absurd z (by decide), fun _ => ?_⟩)
      have hp3 : zPer S (zu U 61 0 0) := hp2.u61 (Or.inl rfl)
      refine i7_findSigns hC hp3 hP hG (fun V hV v70 v71 => ⟨hin, ?_⟩)
      have hp4 : zPer S V := hp3.tr (hV.per rfl rfl (by decide) (by decide))
      have e0 : V.1 61 0 = 0 := by rw [hV.2 61 (by decide) (by decide)]; exact thr_at
      have e23 : V.1 71 r = T.1 23 r := by rw [i_eq, v71 r hr, f23 r hr]
      have e82 : V.2 82 0 = Int32.toInt64 (T.1 23 r) := by rw [hV.1]; show U.2 82 0 = _; rw [eU, zw_at, if_pos ⟨rfl, rfl⟩, hcl]
      rw [hcl, e23]
      dsimp only
      rw [e82, e0]
      exact ⟨fun _ => ⟨fun _ => ⟨fun _ => hN V (hI.per hp4), fun g => absurd (lg_eq.mpr rfl) g⟩, fun g => absurd rfl g⟩, fun g => absurd rfl g⟩
    · unfold X7_sign X7_sign_b14 X7_sign_b27
      refine i7_flowReason hC hp hx ⟨fun _ => ?_, fun g => absurd ex g⟩
      refine m_isRow hT.2.2.2.2.2.1 h2 (fun c' hc' ec' => absurd ec' (hno c' hc')) (fun _ => ⟨fun _ => ?_, fun z => absurd rfl z⟩)
      refine m_passes (fun z => absurd rfl z) (fun _ _ => ⟨fun _ => ?_, fun z => absurd rfl z⟩) (fun _ z => absurd z (by decide))
      exact ⟨fun _ => ⟨fun g => absurd g (by decide), fun _ => hN _ ((hI.per hp).thrown 2)⟩, fun g => absurd thr_at g⟩
  · unfold X7_sign X7_sign_b14 X7_sign_b27
    refine i7_flowReason hC hp hx ⟨fun g => absurd g ex, fun _ => ?_⟩
    have hT := hC.per hp
    have go : ∀ t0 : Int32, X7_passes 1 t0 T (fun r_27 S_27 => (r_27 = 0 → (fun r_667 S_667 => (S_667.1 61 0 = 1 → ((1 : Int32) = 0 → ((lg_cmp (S_667.2 82 0) (Int32.toInt64 r_667)) = 0 → N S_667) ∧ (¬ (lg_cmp (S_667.2 82 0) (Int32.toInt64 r_667)) = 0 → False)) ∧ (¬ (1 : Int32) = 0 → N S_667)) ∧ (¬ S_667.1 61 0 = 1 → False)) (0 : Int32) S_27) ∧ (¬ r_27 = 0 → X7_findSigns S_27 (fun S_36 => vp_in y1 8 ∧ (fun r_667 S_667 => (S_667.1 61 0 = 1 → ((1 : Int32) = 0 → ((lg_cmp (S_667.2 82 0) (Int32.toInt64 r_667)) = 0 → N S_667) ∧ (¬ (lg_cmp (S_667.2 82 0) (Int32.toInt64 r_667)) = 0 → False)) ∧ (¬ (1 : Int32) = 0 → N S_667)) ∧ (¬ S_667.1 61 0 = 1 → False)) (S_36.1 71 (y1).toNatClampNeg) S_36))) := fun t0 =>
      m_passes (fun _ => ⟨fun _ => ⟨fun _ => ⟨fun g => absurd g (by decide), fun _ => hN _ ((hI.per hp).thrown 1)⟩, fun g => absurd thr_at g⟩, fun z => absurd rfl z⟩) (fun z => absurd z (by decide)) (fun z => absurd z (by decide))
    exact m_isRow hT.2.2.2.2.2.1 h2 (fun _ _ _ => ⟨fun _ => go 1, fun _ => go 0⟩) (fun _ => ⟨fun _ => go 1, fun _ => go 0⟩)
