/-! cost(), right() -/
theorem k_4 {y1 y2 y3 : Int32} {S : ZS} {N : ZS → Prop} (h : Inv S) (hN : ∀ T, Inv T → N T) : lawc_4 y1 y2 y3 S N := by
  have hI := h
  obtain ⟨nc, nr, hC, hSol⟩ := h
  obtain ⟨h1, h2, h3, h4, h5, h6, h7, h8, h9, h10, h11⟩ := hC
  unfold lawc_4 L_cost X6_cost X7_thrown
  have el : (1000 : Int32).toInt = 1000 := by decide
  have el2 : (1000 : Int64).toInt = 1000 := by decide
  have el3 : (-1000 : Int64).toInt = -1000 := by decide
  refine m_needColumn h3 h1 (fun c hc ec => ?_) (fun hx => Or.inl ⟨rfl, ?_⟩)
  · have hin : vp_in y1 10 := by rw [ec]; exact vp_in_nI (by omega) (by omega)
    have hcl : y1.toNatClampNeg = c := by rw [ec]; exact nI_clamp (by omega)
    refine m_isWithin (by decide) ⟨fun z => Or.inr ⟨rfl, ?_⟩, fun z => ?_⟩
    · rw [zb_0, el] at z
      unfold X7_cost X7_cost_b14 X7_cost_b33
      refine m_isColumn h5 h1 (fun c' hc' ec' => ⟨fun z => absurd z (by decide), fun _ => ?_⟩) (fun hx => absurd ec (hx c hc))
      refine m_within ⟨fun _ => ?_, fun z2 => ?_⟩
      · refine m_passes (fun z => absurd rfl z) (fun _ _ => ⟨fun _ => ?_, fun z => absurd rfl z⟩) (fun _ z => absurd z (by decide))
        exact ⟨fun _ => ⟨fun z => absurd z (by decide), fun _ => hN _ (hI.thrown 2)⟩, fun z => absurd thr_at z⟩
      · rw [zb_0, el2, el3, l_i] at z2
        exact absurd z z2
    · rw [zb_0, el] at z
      have g : zlim 1000 y2 := Classical.not_not.mp z
      intro T1 e1
      refine ⟨hin, fun x ex => ⟨hin, fun T2 e2 T3 e3 => ?_⟩⟩
      rw [hcl] at ex e2
      have ex2 : x = S.1 10 c := by rw [ex, e1, zu_ne (by decide)]
      unfold X7_cost X7_cost_b14 X7_cost_b33
      have t61 : T3.1 61 = S.1 61 := by rw [e3, zw_1, e2, e1, zu_ne (by decide), zu_ne (by decide)]
      refine m_isColumn (n := nc) (by rw [t61]; exact h5) h1 (fun c' hc' ec' => ⟨fun z => absurd z (by decide), fun _ => ?_⟩) (fun hx => absurd ec (hx c hc))
      refine m_within ⟨fun z2 => ?_, fun _ => ?_⟩
      · rw [zb_0, el2, el3, l_i] at z2
        exact absurd g z2
      · refine m_passes (fun z => absurd rfl z) (fun _ z => absurd rfl z) (fun _ _ => ⟨fun z => absurd z (by decide), fun _ => ⟨hin, fun w ew => ⟨hin, fun U1 u1 U2 u2 => ?_⟩⟩⟩)
        rw [hcl] at ew u1
        have ew2 : w = S.1 10 c := by
          rw [ew, zu_ne (by decide), e3, zw_1, e2, zu_ne (by decide), e1, zu_ne (by decide)]
          exact (h7 c hc).2.2.1
        have r : ∀ n j, U2.1 n j = if n = 61 ∧ j = 9 then -1 else if n = 64 ∧ j = c then y2 else if n = 61 ∧ j = 0 then 0 else if n = 10 ∧ j = c then y2 else if n = 0 ∧ j = 7 then 0 else S.1 n j := fun n j => by
          rw [u2, zu_at, u1, zu_at, zu_at, e3, zw_1, e2, zu_at, e1, zu_at]
        refine ⟨fun _ => ⟨fun _ => ⟨fun _ => hN U2 ?_, fun z => absurd ?_ z⟩, fun z => absurd rfl z⟩, fun z => absurd (by rw [r]; simp) z⟩
        · refine ⟨nc, nr, ⟨h1, h2, by rw [r]; simpa using h3, by rw [r]; simpa using h4, by rw [r]; simpa using h5, by rw [r]; simpa using h6, fun d hd => ?_, fun q hq => ?_, fun q d hq hd => ?_, fun q d hq hd => ?_, fun q d hq hd hh => ?_⟩, Or.inl ⟨by rw [r]; simp, by rw [r]; simp⟩⟩
          · simp only [r]
            by_cases gd : d = c
            · subst gd
              simpa using ⟨(h7 d hd).1, (h7 d hd).2.1, (h7 d hd).2.2.2.1, g⟩
            · simpa [gd] using h7 d hd
          · simp only [r]
            simpa using h8 q hq
          · rw [r, r]
            rw [if_neg (by omega), if_neg (by omega), if_neg (by omega), if_neg (by omega), if_neg (by omega), if_neg (by omega), if_neg (by omega), if_neg (by omega), if_neg (by omega), if_neg (by omega)]
            exact h9 q d hq hd
          · rw [r, if_neg (by omega), if_neg (by omega), if_neg (by omega), if_neg (by omega), if_neg (by omega)]
            exact h10 q d hq hd
          · rw [r, if_neg (by omega), if_neg (by omega), if_neg (by omega), if_neg (by omega), if_neg (by omega)]
            exact h11 q d hq hd hh
        · rw [lg_eq, u2, u1, zu_2, zu_2, zu_2, e3, zw_at, if_pos ⟨rfl, rfl⟩, ex2, ew2]
  · unfold X7_cost X7_cost_b14 X7_cost_b33
    refine m_isColumn h5 h1 (fun c' hc' ec' => absurd ec' (hx c' hc')) (fun _ => ⟨fun _ => ?_, fun z => absurd rfl z⟩)
    refine m_within ⟨fun _ => ?_, fun _ => ?_⟩
    · exact m_passes (fun _ => ⟨fun _ => ⟨fun _ => ⟨fun z => absurd z (by decide), fun _ => hN _ (hI.thrown 1)⟩, fun z => absurd thr_at z⟩, fun z => absurd rfl z⟩) (fun z => absurd z (by decide)) (fun z => absurd z (by decide))
    · exact m_passes (fun _ => ⟨fun _ => ⟨fun _ => ⟨fun z => absurd z (by decide), fun _ => hN _ (hI.thrown 1)⟩, fun z => absurd thr_at z⟩, fun z => absurd rfl z⟩) (fun z => absurd z (by decide)) (fun z => absurd z (by decide))
theorem k_5 {y1 y2 y3 : Int32} {S : ZS} {N : ZS → Prop} (h : Inv S) (hN : ∀ T, Inv T → N T) : lawc_5 y1 y2 y3 S N := by
  have hI := h
  obtain ⟨nc, nr, hC, hSol⟩ := h
  obtain ⟨h1, h2, h3, h4, h5, h6, h7, h8, h9, h10, h11⟩ := hC
  unfold lawc_5 L_right X6_right X7_thrown
  have el : (100000 : Int32).toInt = 100000 := by decide
  have el2 : (100000 : Int64).toInt = 100000 := by decide
  have el3 : (-100000 : Int64).toInt = -100000 := by decide
  refine m_needRow h4 h2 (fun c hc ec => ?_) (fun hx => Or.inl ⟨rfl, ?_⟩)
  · have hin : vp_in y1 8 := by rw [ec]; exact vp_in_nI (by omega) (by omega)
    have hcl : y1.toNatClampNeg = c := by rw [ec]; exact nI_clamp (by omega)
    refine m_isWithin (by decide) ⟨fun z => Or.inr ⟨rfl, ?_⟩, fun z => ?_⟩
    · rw [zb_0, el] at z
      unfold X7_right X7_right_b14 X7_right_b33
      refine m_isRow h6 h2 (fun c' hc' ec' => ⟨fun z => absurd z (by decide), fun _ => ?_⟩) (fun hx => absurd ec (hx c hc))
      refine m_within ⟨fun _ => ?_, fun z2 => ?_⟩
      · refine m_passes (fun z => absurd rfl z) (fun _ _ => ⟨fun _ => ?_, fun z => absurd rfl z⟩) (fun _ z => absurd z (by decide))
        exact ⟨fun _ => ⟨fun z => absurd z (by decide), fun _ => hN _ (hI.thrown 2)⟩, fun z => absurd thr_at z⟩
      · rw [zb_0, el2, el3, l_i] at z2
        exact absurd z z2
    · rw [zb_0, el] at z
      have g : zlim 100000 y2 := Classical.not_not.mp z
      intro T1 e1
      refine ⟨hin, fun x ex => ⟨hin, fun T2 e2 T3 e3 => ?_⟩⟩
      rw [hcl] at ex e2
      have ex2 : x = S.1 12 c := by rw [ex, e1, zu_ne (by decide)]
      unfold X7_right X7_right_b14 X7_right_b33
      have t61 : T3.1 61 = S.1 61 := by rw [e3, zw_1, e2, e1, zu_ne (by decide), zu_ne (by decide)]
      refine m_isRow (n := nr) (by rw [t61]; exact h6) h2 (fun c' hc' ec' => ⟨fun z => absurd z (by decide), fun _ => ?_⟩) (fun hx => absurd ec (hx c hc))
      refine m_within ⟨fun z2 => ?_, fun _ => ?_⟩
      · rw [zb_0, el2, el3, l_i] at z2
        exact absurd g z2
      · refine m_passes (fun z => absurd rfl z) (fun _ z => absurd rfl z) (fun _ _ => ⟨fun z => absurd z (by decide), fun _ => ⟨hin, fun w ew => ⟨hin, fun U1 u1 U2 u2 => ?_⟩⟩⟩)
        rw [hcl] at ew u1
        have ew2 : w = S.1 12 c := by
          rw [ew, zu_ne (by decide), e3, zw_1, e2, zu_ne (by decide), e1, zu_ne (by decide)]
          exact (h8 c hc).2.1
        have r : ∀ n j, U2.1 n j = if n = 61 ∧ j = 9 then -1 else if n = 66 ∧ j = c then y2 else if n = 61 ∧ j = 0 then 0 else if n = 12 ∧ j = c then y2 else if n = 0 ∧ j = 7 then 0 else S.1 n j := fun n j => by
          rw [u2, zu_at, u1, zu_at, zu_at, e3, zw_1, e2, zu_at, e1, zu_at]
        refine ⟨fun _ => ⟨fun _ => ⟨fun _ => hN U2 ?_, fun z => absurd ?_ z⟩, fun z => absurd rfl z⟩, fun z => absurd (by rw [r]; simp) z⟩
        · refine ⟨nc, nr, ⟨h1, h2, by rw [r]; simpa using h3, by rw [r]; simpa using h4, by rw [r]; simpa using h5, by rw [r]; simpa using h6, fun d hd => ?_, fun q hq => ?_, fun q d hq hd => ?_, fun q d hq hd => ?_, fun q d hq hd hh => ?_⟩, Or.inl ⟨by rw [r]; simp, by rw [r]; simp⟩⟩
          · simp only [r]
            simpa using h7 d hd
          · simp only [r]
            by_cases gd : q = c
            · subst gd
              simpa using ⟨(h8 q hq).1, (h8 q hq).2.2.1, g⟩
            · simpa [gd] using h8 q hq
          · rw [r, r]
            rw [if_neg (by omega), if_neg (by omega), if_neg (by omega), if_neg (by omega), if_neg (by omega), if_neg (by omega), if_neg (by omega), if_neg (by omega), if_neg (by omega), if_neg (by omega)]
            exact h9 q d hq hd
          · rw [r, if_neg (by omega), if_neg (by omega), if_neg (by omega), if_neg (by omega), if_neg (by omega)]
            exact h10 q d hq hd
          · rw [r, if_neg (by omega), if_neg (by omega), if_neg (by omega), if_neg (by omega), if_neg (by omega)]
            exact h11 q d hq hd hh
        · rw [lg_eq, u2, u1, zu_2, zu_2, zu_2, e3, zw_at, if_pos ⟨rfl, rfl⟩, ex2, ew2]
  · unfold X7_right X7_right_b14 X7_right_b33
    refine m_isRow h6 h2 (fun c' hc' ec' => absurd ec' (hx c' hc')) (fun _ => ⟨fun _ => ?_, fun z => absurd rfl z⟩)
    refine m_within ⟨fun _ => ?_, fun _ => ?_⟩
    · exact m_passes (fun _ => ⟨fun _ => ⟨fun _ => ⟨fun z => absurd z (by decide), fun _ => hN _ (hI.thrown 1)⟩, fun z => absurd thr_at z⟩, fun z => absurd rfl z⟩) (fun z => absurd z (by decide)) (fun z => absurd z (by decide))
    · exact m_passes (fun _ => ⟨fun _ => ⟨fun _ => ⟨fun z => absurd z (by decide), fun _ => hN _ (hI.thrown 1)⟩, fun z => absurd thr_at z⟩, fun z => absurd rfl z⟩) (fun z => absurd z (by decide)) (fun z => absurd z (by decide))
