/-! term(), row(), clear() -/
theorem k_2 {y1 y2 y3 : Int32} {S : ZS} {N : ZS → Prop} (h : Inv S) (hN : ∀ T, Inv T → N T) : lawc_2 y1 y2 y3 S N := by
  have hI := h
  obtain ⟨nc, nr, hC, hSol⟩ := h
  obtain ⟨h1, h2, h3, h4, h5, h6, h7, h8, h9, h10, h11⟩ := hC
  have el : (100 : Int32).toInt = 100 := by decide
  have el2 : (100 : Int64).toInt = 100 := by decide
  have el3 : (-100 : Int64).toInt = -100 := by decide
  -- what the reference does where a row or a column isn't there
  have out : X7_term_b22 y1 y2 y3 (1 : Int32) S (fun S_339 => (S_339.1 61 0 = 1 → N S_339) ∧ (¬ S_339.1 61 0 = 1 → False)) := by
    unfold X7_term_b22 X7_term_b41 X7_term_b64
    have key : ∀ t0 : Int32, X7_passes 1 t0 S (fun r_41 S_41 => (r_41 = 0 → (S_41.1 61 0 = 1 → N S_41) ∧ (¬ S_41.1 61 0 = 1 → False)) ∧ (¬ r_41 = 0 → vp_in (((10 : Int32) * y1) + y2) 80 ∧ ∀ S_58 : ZS, S_58 = zu S_41 67 ((((10 : Int32) * y1) + y2)).toNatClampNeg y3 → ∀ S_61 : ZS, S_61 = zu S_58 61 9 (-1 : Int32) → (S_61.1 61 0 = 1 → N S_61) ∧ (¬ S_61.1 61 0 = 1 → False))) := fun t0 =>
      m_passes (fun _ => ⟨fun _ => ⟨fun _ => hN _ (hI.thrown 1), fun z => absurd thr_at z⟩, fun z => absurd rfl z⟩) (fun z => absurd z (by decide)) (fun z => absurd z (by decide))
    exact m_within ⟨fun _ => key 1, fun _ => key 0⟩
  unfold lawc_2 L_term X6_term X7_thrown
  refine m_needRow h4 h2 (fun r hr er => ?_) (fun hx => Or.inl ⟨rfl, ?_⟩)
  · have hinr : vp_in y1 8 := by rw [er]; exact vp_in_nI (by omega) (by omega)
    have hclr : y1.toNatClampNeg = r := by rw [er]; exact nI_clamp (by omega)
    refine m_needColumn h3 h1 (fun c hc ec => ?_) (fun hx => Or.inl ⟨rfl, ?_⟩)
    · have hin : vp_in y2 10 := by rw [ec]; exact vp_in_nI (by omega) (by omega)
      have hcl : y2.toNatClampNeg = c := by rw [ec]; exact nI_clamp (by omega)
      have eix : ((10 : Int32) * y1) + y2 = nI (10 * r + c) := by
        rw [er, ec, show (10 : Int32) = nI 10 from rfl, pk_mul, nI_add]
      refine m_isWithin (by decide) ⟨fun z => Or.inr ⟨rfl, ?_⟩, fun z => ?_⟩
      · rw [zb_0, el] at z
        unfold X7_term
        refine m_isRow h6 h2 (fun r' hr' er' => ⟨fun z => absurd z (by decide), fun _ => ?_⟩) (fun hx => absurd er (hx r hr))
        refine m_isColumn h5 h1 (fun c' hc' ec' => ⟨fun z => absurd z (by decide), fun _ => ?_⟩) (fun hx => absurd ec (hx c hc))
        unfold X7_term_b22 X7_term_b41 X7_term_b64
        refine m_within ⟨fun _ => ?_, fun z2 => ?_⟩
        · refine m_passes (fun z => absurd rfl z) (fun _ _ => ⟨fun _ => ?_, fun z => absurd rfl z⟩) (fun _ z => absurd z (by decide))
          exact ⟨fun _ => hN _ (hI.thrown 2), fun z => absurd thr_at z⟩
        · rw [zb_0, el2, el3, l_i] at z2
          exact absurd z z2
      · rw [zb_0, el] at z
        have g : zlim 100 y3 := Classical.not_not.mp z
        intro T1 e1
        refine ⟨hinr, hin, fun T2 e2 => ?_⟩
        rw [hclr, hcl] at e2
        have t61 : T2.1 61 = S.1 61 := by rw [e2, e1, zu_ne (by omega), zu_ne (by decide)]
        unfold X7_term
        refine m_isRow (n := nr) (by rw [t61]; exact h6) h2 (fun r' hr' er' => ⟨fun z => absurd z (by decide), fun _ => ?_⟩) (fun hx => absurd er (hx r hr))
        refine m_isColumn (n := nc) (by rw [t61]; exact h5) h1 (fun c' hc' ec' => ⟨fun z => absurd z (by decide), fun _ => ?_⟩) (fun hx => absurd ec (hx c hc))
        unfold X7_term_b22 X7_term_b41 X7_term_b64
        refine m_within ⟨fun z2 => ?_, fun _ => ?_⟩
        · rw [zb_0, el2, el3, l_i] at z2
          exact absurd g z2
        · refine m_passes (fun z => absurd rfl z) (fun _ z => absurd rfl z) (fun _ _ => ⟨fun z => absurd z (by decide), fun _ => ?_⟩)
          rw [eix]
          refine ⟨vp_in_nI (by omega) (by omega), fun U1 u1 U2 u2 => ?_⟩
          rw [nI_clamp (by omega)] at u1
          have q : ∀ n j, U2.1 n j = if n = 61 ∧ j = 9 then -1 else if n = 67 ∧ j = 10 * r + c then y3 else if n = 61 ∧ j = 0 then 0 else if n = 14 + r ∧ j = c then y3 else if n = 0 ∧ j = 7 then 0 else S.1 n j := fun n j => by
            rw [u2, zu_at, u1, zu_at, zu_at, e2, zu_at, e1, zu_at]
          have q2 : ∀ n j, n ≠ 61 → n ≠ 67 → n ≠ 0 → (n < 14 ∨ 21 < n) → U2.1 n j = S.1 n j := fun n j a1 a2 a3 a4 => by
            rw [q, if_neg (by omega), if_neg (by omega), if_neg (by omega), if_neg (by omega), if_neg (by omega)]
          have qr : ∀ p d, p < 8 → U2.1 (14 + p) d = if p = r ∧ d = c then y3 else S.1 (14 + p) d := fun p d hp => by
            rw [q, if_neg (by omega), if_neg (by omega), if_neg (by omega)]
            by_cases gg : p = r ∧ d = c
            · rw [if_pos (by omega), if_pos gg]
            · rw [if_neg (by omega), if_neg (by omega), if_neg gg]
          refine ⟨fun _ => hN U2 ?_, fun z => absurd (by rw [q]; simp) z⟩
          refine ⟨nc, nr, ⟨h1, h2, by rw [q2 1 0 (by decide) (by decide) (by decide) (by decide)]; exact h3, by rw [q2 1 1 (by decide) (by decide) (by decide) (by decide)]; exact h4, by rw [q]; simp; rw [if_neg (by omega)]; exact h5, by rw [q]; simp; rw [if_neg (by omega)]; exact h6, fun d hd => ?_, fun p hp => ?_, fun p d hp hd => ?_, fun p d hp hd => ?_, fun p d hp hd hh => ?_⟩, Or.inl ⟨?_, by rw [q]; simp⟩⟩
          · rw [q2 62 d (by decide) (by decide) (by decide) (by decide), q2 63 d (by decide) (by decide) (by decide) (by decide), q2 64 d (by decide) (by decide) (by decide) (by decide), q2 8 d (by decide) (by decide) (by decide) (by decide), q2 9 d (by decide) (by decide) (by decide) (by decide), q2 10 d (by decide) (by decide) (by decide) (by decide)]
            exact h7 d hd
          · rw [q2 65 p (by decide) (by decide) (by decide) (by decide), q2 66 p (by decide) (by decide) (by decide) (by decide), q2 11 p (by decide) (by decide) (by decide) (by decide), q2 12 p (by decide) (by decide) (by decide) (by decide)]
            exact h8 p hp
          · rw [qr p d (by omega), q, if_neg (by omega)]
            by_cases gg : p = r ∧ d = c
            · rw [if_pos (by omega), if_pos gg]
            · rw [if_neg (by omega), if_neg (by omega), if_neg (by omega), if_neg (by omega), if_neg gg]
              exact h9 p d hp hd
          · rw [qr p d hp]
            by_cases gg : p = r ∧ d = c
            · rw [if_pos gg]; exact g
            · rw [if_neg gg]; exact h10 p d hp hd
          · rw [qr p d hp, if_neg (by omega)]
            exact h11 p d hp hd hh
          · rw [q, if_neg (by decide), if_neg (by omega), if_neg (by decide), if_neg (by omega), if_pos ⟨rfl, rfl⟩]
    · unfold X7_term
      refine m_isRow h6 h2 (fun r' hr' er' => ⟨fun z => absurd z (by decide), fun _ => ?_⟩) (fun hx2 => absurd er (hx2 r hr))
      refine m_isColumn h5 h1 (fun c' hc' ec' => absurd ec' (hx c' hc')) (fun _ => ⟨fun _ => ?_, fun z => absurd rfl z⟩)
      unfold X7_term_b17
      exact out
  · unfold X7_term
    refine m_isRow h6 h2 (fun r' hr' er' => absurd er' (hx r' hr')) (fun _ => ⟨fun _ => ?_, fun z => absurd rfl z⟩)
    unfold X7_term_b17
    exact out
