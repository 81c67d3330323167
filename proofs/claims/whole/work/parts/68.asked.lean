/-! what is asked of what was solved: at(), price(), proof(), side() -/
theorem zSol.best {S : ZS} {nc nr : Nat} (h : zSol S nc nr) : (S.1 61 9 = 1 ↔ (S.1 0 7 = 1 ∨ S.1 0 7 = 2)) ∧ ((S.1 0 7 = 1 ∨ S.1 0 7 = 2) → ∀ c, c < nc → S.1 68 c = S.1 7 c) := by
  rcases h with ⟨a, b⟩ | ⟨a, b, -, d, -⟩ | ⟨a, b, -, d⟩ | ⟨a, b, -, -⟩
  · rw [a, b]; exact ⟨⟨fun z => absurd z (by decide), fun z => absurd z (by decide)⟩, fun z => absurd z (by decide)⟩
  · rw [a, b]; exact ⟨⟨fun _ => Or.inl rfl, fun _ => rfl⟩, fun _ => d⟩
  · rw [a, b]; exact ⟨⟨fun _ => Or.inr rfl, fun _ => rfl⟩, fun _ => d⟩
  · rw [a, b]; exact ⟨⟨fun z => absurd z (by decide), fun z => absurd z (by decide)⟩, fun z => absurd z (by decide)⟩
theorem zSol.price {S : ZS} {nc nr : Nat} (h : zSol S nc nr) : (S.1 0 7 = 1 → S.1 61 9 = 1 ∧ S.1 61 10 = 1 ∧ ∀ r, r < nr → (S.2 69 r).toInt = (S.1 37 r).toInt) ∧ (¬ S.1 0 7 = 1 → ¬ S.1 61 9 = 1 ∨ S.1 61 10 = 0) := by
  rcases h with ⟨a, b⟩ | ⟨a, b, c, -, e⟩ | ⟨a, b, c, -⟩ | ⟨a, b, -, -⟩
  · rw [a, b]; exact ⟨fun z => absurd z (by decide), fun _ => Or.inl (by decide)⟩
  · rw [a, b, c]; exact ⟨fun _ => ⟨rfl, rfl, e⟩, fun z => absurd rfl z⟩
  · rw [a, b, c]; exact ⟨fun z => absurd z (by decide), fun _ => Or.inr rfl⟩
  · rw [a, b]; exact ⟨fun z => absurd z (by decide), fun _ => Or.inl (by decide)⟩
theorem zSol.proof {S : ZS} {nc nr : Nat} (h : zSol S nc nr) : (S.1 0 7 = 3 ↔ S.1 61 9 = 0) ∧ (S.1 0 7 = 3 → S.1 61 13 = S.1 5 0 ∧ S.1 61 14 = S.1 5 1) := by
  rcases h with ⟨a, b⟩ | ⟨a, b, -, -, -⟩ | ⟨a, b, -, -⟩ | ⟨a, b, c, d⟩
  · rw [a, b]; exact ⟨⟨fun z => absurd z (by decide), fun z => absurd z (by decide)⟩, fun z => absurd z (by decide)⟩
  · rw [a, b]; exact ⟨⟨fun z => absurd z (by decide), fun z => absurd z (by decide)⟩, fun z => absurd z (by decide)⟩
  · rw [a, b]; exact ⟨⟨fun z => absurd z (by decide), fun z => absurd z (by decide)⟩, fun z => absurd z (by decide)⟩
  · rw [a, b]; exact ⟨⟨fun _ => rfl, fun _ => rfl⟩, fun _ => ⟨c, d⟩⟩
def zend (kr : Int32) (N : ZS → Prop) (b : Int32) (T : ZS) : Prop := (T.1 61 0 = kr → (kr = 0 → (lg_cmp (T.2 82 0) (Int32.toInt64 b) = 0 → N T) ∧ (¬ lg_cmp (T.2 82 0) (Int32.toInt64 b) = 0 → False)) ∧ (¬ kr = 0 → N T)) ∧ (¬ T.1 61 0 = kr → False)
theorem zend_throw {S : ZS} {N : ZS → Prop} {b v : Int32} (hv : ¬ v = 0) (h : Inv S) (hN : ∀ T, Inv T → N T) : zend v N b (zu S 61 0 v) :=
  ⟨fun _ => ⟨fun z => absurd z hv, fun _ => hN _ (h.thrown v)⟩, fun z => absurd thr_at z⟩
theorem zend_ok {S U : ZS} {N : ZS → Prop} {b r : Int32} (eU : U = zw S 82 0 (Int32.toInt64 r)) (hb : b = r) (h : Inv S) (hN : ∀ T, Inv T → N T) : zend 0 N b (zu U 61 0 0) := by
  refine ⟨fun _ => ⟨fun _ => ⟨fun _ => hN _ ?_, fun z => absurd ?_ z⟩, fun z => absurd rfl z⟩, fun z => absurd thr_at z⟩
  · rw [eU]
    exact h.per (((zPer.rf S).w rfl).u61 (Or.inl rfl))
  · rw [lg_eq, zu_2, eU, zw_at, if_pos ⟨rfl, rfl⟩, hb]
theorem x6_best {S : ZS} {Q : ZS → Prop} {X : String → ZS → Prop} (h1 : (S.1 0 7 = 1 ∨ S.1 0 7 = 2) → Q S) (h2 : ¬ (S.1 0 7 = 1 ∨ S.1 0 7 = 2) → X "java/lang/IllegalStateException" S) : X6_needBest S Q X := by
  unfold X6_needBest X6_needBest_b26
  exact ⟨fun c => h1 (Or.inl c), fun c => ⟨fun d => h1 (Or.inr d), fun d => h2 (fun z => z.elim c d)⟩⟩
theorem k_17 {y1 y2 y3 : Int32} {S : ZS} {N : ZS → Prop} (h : Inv S) (hN : ∀ T, Inv T → N T) : lawc_17 y1 y2 y3 S N := by
  have hI := h
  obtain ⟨nc, nr, hC, hSol⟩ := h
  obtain ⟨h1, h2, h3, h4, h5, h6, h7, h8, h9, h10, h11⟩ := hC
  obtain ⟨hb1, hb2⟩ := hSol.best
  unfold lawc_17 L_at X6_at X7_thrown
  refine x6_best (fun g => ?_) (fun g => Or.inl ⟨rfl, ?_⟩)
  · refine m_needColumn h3 h1 (fun c hc ec => ?_) (fun hx => Or.inr ⟨rfl, ?_⟩)
    · have hin : vp_in y1 10 := by rw [ec]; exact vp_in_nI (by omega) (by omega)
      have hcl : y1.toNatClampNeg = c := by rw [ec]; exact nI_clamp (by omega)
      refine ⟨hin, fun U eU => ?_⟩
      have hU : ∀ n, U.1 n = S.1 n := fun n => by rw [eU, zw_1]
      unfold X7_at X7_at_b14 X7_at_b27 X7_at_b43
      refine ⟨fun _ => ?_, fun z => absurd (by rw [hU]; exact hb1.mpr g) z⟩
      refine m_isColumn (n := nc) (by rw [hU]; exact h5) h1 (fun c' hc' ec' => ⟨fun z => absurd z (by decide), fun _ => ?_⟩) (fun hx => absurd ec (hx c hc))
      refine m_passes (fun z => absurd rfl z) (fun _ z => absurd rfl z) (fun _ _ => ⟨fun z => absurd z (by decide), fun _ => ⟨hin, ?_⟩⟩)
      rw [hcl] at eU ⊢
      refine zend_ok eU ?_ hI hN
      rw [zu_ne (by decide), hU, hb2 g c hc]
    · unfold X7_at X7_at_b14 X7_at_b27 X7_at_b43
      refine ⟨fun _ => ?_, fun z => absurd (hb1.mpr g) z⟩
      refine m_isColumn h5 h1 (fun c' hc' ec' => absurd ec' (hx c' hc')) (fun _ => ⟨fun _ => ?_, fun z => absurd rfl z⟩)
      exact m_passes (fun z => absurd rfl z) (fun _ _ => ⟨fun _ => zend_throw (by decide) hI hN, fun z => absurd rfl z⟩) (fun _ z => absurd z (by decide))
  · unfold X7_at X7_at_b14 X7_at_b27 X7_at_b43
    refine ⟨fun z => absurd (hb1.mp z) g, fun _ => ?_⟩
    have key : ∀ t0 : Int32, X7_passes 1 t0 S (fun r_27 S_27 => (r_27 = 0 → zend 1 N 0 S_27) ∧ (¬ r_27 = 0 → vp_in y1 10 ∧ zend 1 N (S_27.1 68 (y1).toNatClampNeg) S_27)) := fun t0 =>
      m_passes (fun _ => ⟨fun _ => zend_throw (by decide) hI hN, fun z => absurd rfl z⟩) (fun z => absurd z (by decide)) (fun z => absurd z (by decide))
    exact m_isColumn h5 h1 (fun _ _ _ => ⟨fun _ => key 1, fun _ => key 0⟩) (fun _ => ⟨fun _ => key 1, fun _ => key 0⟩)
theorem k_20 {y1 y2 y3 : Int32} {S : ZS} {N : ZS → Prop} (h : Inv S) (hN : ∀ T, Inv T → N T) : lawc_20 y1 y2 y3 S N := by
  have hI := h
  obtain ⟨nc, nr, hC, hSol⟩ := h
  obtain ⟨h1, h2, h3, h4, h5, h6, h7, h8, h9, h10, h11⟩ := hC
  obtain ⟨hb1, hb2⟩ := hSol.price
  unfold lawc_20 L_price X6_price X6_needPrices X7_thrown
  refine ⟨fun g => ?_, fun g => Or.inl ⟨rfl, ?_⟩⟩
  · obtain ⟨b1, b2, b3⟩ := hb1 g
    refine m_needRow h4 h2 (fun c hc ec => ?_) (fun hx => Or.inr ⟨rfl, ?_⟩)
    · have hin : vp_in y1 8 := by rw [ec]; exact vp_in_nI (by omega) (by omega)
      have hcl : y1.toNatClampNeg = c := by rw [ec]; exact nI_clamp (by omega)
      refine ⟨hin, fun U eU => ?_⟩
      have hU : ∀ n, U.1 n = S.1 n := fun n => by rw [eU, zw_1]
      unfold X7_price X7_price_b16 X7_price_b21 X7_price_b34 X7_price_b51
      refine ⟨fun _ => ⟨fun z => absurd z (by rw [hU, b2]; decide), fun _ => ?_⟩, fun z => absurd (by rw [hU]; exact b1) z⟩
      refine m_isRow (n := nr) (by rw [hU]; exact h6) h2 (fun c' hc' ec' => ⟨fun z => absurd z (by decide), fun _ => ?_⟩) (fun hx => absurd ec (hx c hc))
      refine m_passes (fun z => absurd rfl z) (fun _ z => absurd rfl z) (fun _ _ => ⟨fun z => absurd z (by decide), fun _ => ⟨hin, ?_⟩⟩)
      rw [hcl] at eU ⊢
      refine zend_ok eU ?_ hI hN
      rw [zu_2, eU, zw_at, if_neg (by omega), i_eq]
      have b4 := b3 c hc
      have := i_rng (S.1 37 c)
      rw [Int64.toInt_toInt32, b4]
      exact i_bm (by omega) (by omega)
    · unfold X7_price X7_price_b16 X7_price_b21 X7_price_b34 X7_price_b51
      refine ⟨fun _ => ⟨fun z => absurd z (by rw [b2]; decide), fun _ => ?_⟩, fun z => absurd b1 z⟩
      refine m_isRow h6 h2 (fun c' hc' ec' => absurd ec' (hx c' hc')) (fun _ => ⟨fun _ => ?_, fun z => absurd rfl z⟩)
      exact m_passes (fun z => absurd rfl z) (fun _ _ => ⟨fun _ => zend_throw (by decide) hI hN, fun z => absurd rfl z⟩) (fun _ z => absurd z (by decide))
  · have key : ∀ t0 : Int32, X7_passes 1 t0 S (fun r_34 S_34 => (r_34 = 0 → zend 1 N 0 S_34) ∧ (¬ r_34 = 0 → vp_in y1 8 ∧ zend 1 N (Int64.toInt32 (S_34.2 69 (y1).toNatClampNeg)) S_34)) := fun t0 =>
      m_passes (fun _ => ⟨fun _ => zend_throw (by decide) hI hN, fun z => absurd rfl z⟩) (fun z => absurd z (by decide)) (fun z => absurd z (by decide))
    have key2 : X7_price_b21 y1 1 S (zend 1 N) := by
      unfold X7_price_b21 X7_price_b34 X7_price_b51
      exact m_isRow h6 h2 (fun _ _ _ => ⟨fun _ => key 1, fun _ => key 0⟩) (fun _ => ⟨fun _ => key 1, fun _ => key 0⟩)
    unfold X7_price X7_price_b16
    refine ⟨fun z => ⟨fun _ => key2, fun z2 => ?_⟩, fun _ => key2⟩
    rcases hb2 g with q | q
    · exact absurd z q
    · exact absurd q z2
theorem k_22 {y1 y2 y3 : Int32} {S : ZS} {N : ZS → Prop} (h : Inv S) (hN : ∀ T, Inv T → N T) : lawc_22 y1 y2 y3 S N := by
  have hI := h
  obtain ⟨nc, nr, hC, hSol⟩ := h
  obtain ⟨hb1, hb2⟩ := hSol.proof
  unfold lawc_22 L_proof X6_proof X6_needNoPoint X7_thrown
  refine ⟨fun g => ?_, fun g => ⟨rfl, ?_⟩⟩
  · intro U eU
    have hU : ∀ n, U.1 n = S.1 n := fun n => by rw [eU, zw_1]
    unfold X7_proof X7_proof_b13 X7_proof_b28
    refine ⟨fun _ => ?_, fun z => absurd (by rw [hU]; exact hb1.mp g) z⟩
    refine m_passes (fun z => absurd rfl z) (fun _ z => absurd rfl z) (fun _ _ => ⟨fun z => absurd z (by decide), fun _ => ?_⟩)
    refine zend_ok eU ?_ hI hN
    rw [zu_at, if_neg (by decide), hU, (hb2 g).1]
  · unfold X7_proof X7_proof_b13 X7_proof_b28
    refine ⟨fun z => absurd (hb1.mpr z) g, fun _ => ?_⟩
    exact m_passes (fun _ => ⟨fun _ => zend_throw (by decide) hI hN, fun z => absurd rfl z⟩) (fun z => absurd z (by decide)) (fun z => absurd z (by decide))
theorem k_23 {y1 y2 y3 : Int32} {S : ZS} {N : ZS → Prop} (h : Inv S) (hN : ∀ T, Inv T → N T) : lawc_23 y1 y2 y3 S N := by
  have hI := h
  obtain ⟨nc, nr, hC, hSol⟩ := h
  obtain ⟨hb1, hb2⟩ := hSol.proof
  unfold lawc_23 L_side X6_side X6_needNoPoint X7_thrown
  refine ⟨fun g => ?_, fun g => ⟨rfl, ?_⟩⟩
  · intro U eU
    have hU : ∀ n, U.1 n = S.1 n := fun n => by rw [eU, zw_1]
    unfold X7_side X7_side_b13 X7_side_b28
    refine ⟨fun _ => ?_, fun z => absurd (by rw [hU]; exact hb1.mp g) z⟩
    refine m_passes (fun z => absurd rfl z) (fun _ z => absurd rfl z) (fun _ _ => ⟨fun z => absurd z (by decide), fun _ => ?_⟩)
    refine zend_ok eU ?_ hI hN
    rw [zu_at, if_neg (by decide), hU, (hb2 g).2]
  · unfold X7_side X7_side_b13 X7_side_b28
    refine ⟨fun z => absurd (hb1.mpr z) g, fun _ => ?_⟩
    exact m_passes (fun _ => ⟨fun _ => zend_throw (by decide) hI hN, fun z => absurd rfl z⟩) (fun z => absurd z (by decide)) (fun z => absurd z (by decide))
