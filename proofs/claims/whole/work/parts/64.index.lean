/-! which column, which row; bounds(), cost(), right(), term() -/
theorem ix_of {y : Int32} {n : Nat} (hn : n ≤ 10) (h0 : 0 ≤ y.toInt) (h1 : y.toInt < n) : ∃ c, c < n ∧ y = nI c := by
  refine ⟨y.toInt.toNat, by omega, ?_⟩
  rw [i_eq, nI_toInt (by omega)]
  omega
theorem m_needColumn {y : Int32} {S : ZS} {Q : ZS → Prop} {X : String → ZS → Prop} {n : Nat} (hc : S.1 1 0 = nI n) (hn : n ≤ 10) (h1 : ∀ c, c < n → y = nI c → Q S) (h2 : (∀ c, c < n → y ≠ nI c) → X "java/lang/IndexOutOfBoundsException" S) : X6_needColumn y S Q X := by
  have e0 : (0 : Int32).toInt = 0 := by decide
  have bad : ¬ (0 ≤ y.toInt ∧ y.toInt < n) → X "java/lang/IndexOutOfBoundsException" S := fun g => h2 (fun c hcn e => g (by rw [e, nI_toInt (by omega)]; omega))
  unfold X6_needColumn X6_needColumn_b15
  rw [hc]
  refine ⟨fun c => bad ?_, fun c => ⟨fun c2 => ?_, fun c2 => bad ?_⟩⟩
  · rw [i_lt, e0] at c; omega
  · rw [i_lt, e0] at c
    rw [i_lt, nI_toInt (by omega)] at c2
    obtain ⟨q, g1, g2⟩ := ix_of hn (by omega) c2
    exact h1 q g1 g2
  · rw [i_lt, nI_toInt (by omega)] at c2; omega
theorem m_needRow {y : Int32} {S : ZS} {Q : ZS → Prop} {X : String → ZS → Prop} {n : Nat} (hc : S.1 1 1 = nI n) (hn : n ≤ 8) (h1 : ∀ c, c < n → y = nI c → Q S) (h2 : (∀ c, c < n → y ≠ nI c) → X "java/lang/IndexOutOfBoundsException" S) : X6_needRow y S Q X := by
  have e0 : (0 : Int32).toInt = 0 := by decide
  have bad : ¬ (0 ≤ y.toInt ∧ y.toInt < n) → X "java/lang/IndexOutOfBoundsException" S := fun g => h2 (fun c hcn e => g (by rw [e, nI_toInt (by omega)]; omega))
  unfold X6_needRow X6_needRow_b15
  rw [hc]
  refine ⟨fun c => bad ?_, fun c => ⟨fun c2 => ?_, fun c2 => bad ?_⟩⟩
  · rw [i_lt, e0] at c; omega
  · rw [i_lt, e0] at c
    rw [i_lt, nI_toInt (by omega)] at c2
    obtain ⟨q, g1, g2⟩ := ix_of (by omega) (by omega) c2
    exact h1 q g1 g2
  · rw [i_lt, nI_toInt (by omega)] at c2; omega
theorem m_inSide {y x : Int32} {S : ZS} {Q : Int32 → ZS → Prop} {n : Nat} (hc : x = nI n) (hn : n ≤ 10) (h1 : ∀ c, c < n → y = nI c → Q 1 S) (h2 : (∀ c, c < n → y ≠ nI c) → Q 0 S) : X7_within (Int32.toInt64 y) (0 : Int64) (Int32.toInt64 (x - (1 : Int32))) S (fun r S => zbit r ∧ Q r S) := by
  have e0 : (0 : Int64).toInt = 0 := by decide
  have e1 : (1 : Int32).toInt = 1 := by decide
  have ex : (x - (1 : Int32)).toInt = (n : Int) - 1 := by
    rw [i_sub (by rw [hc, nI_toInt (by omega), e1]; omega) (by rw [hc, nI_toInt (by omega), e1]; omega), hc, nI_toInt (by omega), e1]
  refine m_within ?_
  by_cases g : (0 : Int64).toInt ≤ (Int32.toInt64 y).toInt ∧ (Int32.toInt64 y).toInt ≤ (Int32.toInt64 (x - (1 : Int32))).toInt
  · rw [zb_t g]
    rw [e0, l_i, l_i, ex] at g
    obtain ⟨q, g1, g2⟩ := ix_of hn g.1 (by omega)
    exact ⟨Or.inr rfl, h1 q g1 g2⟩
  · rw [zb_f g]
    rw [e0, l_i, l_i, ex] at g
    exact ⟨Or.inl rfl, h2 (fun c hcn e => g (by rw [e, nI_toInt (by omega)]; omega))⟩
theorem m_isColumn {y : Int32} {S : ZS} {Q : Int32 → ZS → Prop} {n : Nat} (hc : S.1 61 1 = nI n) (hn : n ≤ 10) (h1 : ∀ c, c < n → y = nI c → Q 1 S) (h2 : (∀ c, c < n → y ≠ nI c) → Q 0 S) : X7_isColumn y S Q := by
  unfold X7_isColumn
  exact m_inSide hc hn h1 h2
theorem m_isRow {y : Int32} {S : ZS} {Q : Int32 → ZS → Prop} {n : Nat} (hc : S.1 61 2 = nI n) (hn : n ≤ 8) (h1 : ∀ c, c < n → y = nI c → Q 1 S) (h2 : (∀ c, c < n → y ≠ nI c) → Q 0 S) : X7_isRow y S Q := by
  unfold X7_isRow
  exact m_inSide hc (by omega) h1 h2
/-- thrown by both sides alike: nothing else has changed -/
theorem Inv.thrown {S : ZS} (h : Inv S) (v : Int32) : Inv (zu S 61 0 v) := h.per ((zPer.rf S).u61 (Or.inl rfl))
theorem thr_at {S : ZS} {v : Int32} : (zu S 61 0 v).1 61 0 = v := by rw [zu_at, if_pos ⟨rfl, rfl⟩]
theorem nI_inj {a b : Nat} (ha : a ≤ 10) (hb : b ≤ 10) (h : nI a = nI b) : a = b := (nI_eq (by omega) (by omega)).mp h
theorem k_3 {y1 y2 y3 : Int32} {S : ZS} {N : ZS → Prop} (h : Inv S) (hN : ∀ T, Inv T → N T) : lawc_3 y1 y2 y3 S N := by
  have hI := h
  obtain ⟨nc, nr, hC, hSol⟩ := h
  obtain ⟨h1, h2, h3, h4, h5, h6, h7, h8, h9, h10, h11⟩ := hC
  unfold lawc_3 L_bounds X6_bounds X7_thrown
  refine m_needColumn h3 h1 (fun c hc ec => ?_) (fun hx => Or.inl ⟨rfl, ?_⟩)
  · have hin : vp_in y1 10 := by rw [ec]; exact vp_in_nI (by omega) (by omega)
    have hcl : y1.toNatClampNeg = c := by rw [ec]; exact nI_clamp (by omega)
    refine m_areBounds6 (fun g => ⟨fun z => absurd z (by decide), fun _ => ?_⟩) (fun g => ⟨fun _ => Or.inr ⟨rfl, ?_⟩, fun z => absurd rfl z⟩)
    · intro T1 e1
      refine ⟨hin, fun T2 e2 => ⟨hin, fun T3 e3 => ?_⟩⟩
      rw [hcl] at e2 e3
      unfold X7_bounds X7_bounds_b14 X7_bounds_b27 X7_bounds_b52
      have t61 : T3.1 61 = S.1 61 := by rw [e3, e2, e1, zu_ne (by decide), zu_ne (by decide), zu_ne (by decide)]
      refine m_isColumn (n := nc) (by rw [t61]; exact h5) h1 (fun c' hc' ec' => ⟨fun z => absurd z (by decide), fun _ => ?_⟩) (fun hx => absurd ec (hx c hc))
      refine m_areBounds7 (fun _ => ⟨fun z => absurd z (by decide), fun _ => ?_⟩) (fun g2 => absurd g g2)
      refine m_passes (fun z => absurd rfl z) (fun _ z => absurd rfl z) (fun _ _ => ⟨fun z => absurd z (by decide), fun _ => ⟨hin, fun U1 u1 => ⟨hin, fun U2 u2 U3 u3 => ?_⟩⟩⟩)
      rw [hcl] at u1 u2
      refine ⟨fun _ => hN U3 ?_, fun z => absurd ?_ z⟩
      · have r : ∀ n j, U3.1 n j = if n = 61 ∧ j = 9 then -1 else if n = 63 ∧ j = c then y3 else if n = 62 ∧ j = c then y2 else if n = 61 ∧ j = 0 then 0 else if n = 9 ∧ j = c then y3 else if n = 8 ∧ j = c then y2 else if n = 0 ∧ j = 7 then 0 else S.1 n j := fun n j => by
          rw [u3, zu_at, u2, zu_at, u1, zu_at, zu_at, e3, zu_at, e2, zu_at, e1, zu_at]
        refine ⟨nc, nr, ⟨h1, h2, by rw [r]; simpa using h3, by rw [r]; simpa using h4, by rw [r]; simpa using h5, by rw [r]; simpa using h6, fun d hd => ?_, fun q hq => ?_, fun q d hq hd => ?_, fun q d hq hd => ?_, fun q d hq hd hh => ?_⟩, Or.inl ⟨by rw [r]; simp, by rw [r]; simp⟩⟩
        · simp only [r]
          by_cases gd : d = c
          · subst gd
            simpa using ⟨(h7 d hd).2.2.1, g, (h7 d hd).2.2.2.2⟩
          · simpa [gd] using h7 d hd
        · simp only [r]
          simpa using h8 q hq
        · rw [r, r]
          rw [if_neg (by omega), if_neg (by omega), if_neg (by omega), if_neg (by omega), if_neg (by omega), if_neg (by omega), if_neg (by omega), if_neg (by omega), if_neg (by omega), if_neg (by omega), if_neg (by omega), if_neg (by omega), if_neg (by omega), if_neg (by omega)]
          exact h9 q d hq hd
        · rw [r, if_neg (by omega), if_neg (by omega), if_neg (by omega), if_neg (by omega), if_neg (by omega), if_neg (by omega), if_neg (by omega)]
          exact h10 q d hq hd
        · rw [r, if_neg (by omega), if_neg (by omega), if_neg (by omega), if_neg (by omega), if_neg (by omega), if_neg (by omega), if_neg (by omega)]
          exact h11 q d hq hd hh
      · rw [u3, zu_at, if_neg (by decide), u2, zu_ne (by decide), u1, zu_ne (by decide)]
        exact thr_at
    · unfold X7_bounds X7_bounds_b14 X7_bounds_b27 X7_bounds_b52
      refine m_isColumn h5 h1 (fun c' hc' ec' => ⟨fun z => absurd z (by decide), fun _ => ?_⟩) (fun hx => absurd ec (hx c hc))
      refine m_areBounds7 (fun g2 => absurd g2 g) (fun _ => ⟨fun _ => ?_, fun z => absurd rfl z⟩)
      refine m_passes (fun z => absurd rfl z) (fun _ _ => ⟨fun _ => ?_, fun z => absurd rfl z⟩) (fun _ z => absurd z (by decide))
      exact ⟨fun _ => hN _ (hI.thrown 2), fun z => absurd thr_at z⟩
  · unfold X7_bounds X7_bounds_b14 X7_bounds_b27 X7_bounds_b52
    refine m_isColumn h5 h1 (fun c' hc' ec' => absurd ec' (hx c' hc')) (fun _ => ⟨fun _ => ?_, fun z => absurd rfl z⟩)
    have key : ∀ t0 : Int32, X7_passes 1 t0 S (fun r_27 S_27 => (r_27 = 0 → (S_27.1 61 0 = 1 → N S_27) ∧ (¬ S_27.1 61 0 = 1 → False)) ∧ (¬ r_27 = 0 → vp_in y1 10 ∧ ∀ S_39 : ZS, S_39 = zu S_27 62 (y1).toNatClampNeg y2 → vp_in y1 10 ∧ ∀ S_46 : ZS, S_46 = zu S_39 63 (y1).toNatClampNeg y3 → ∀ S_49 : ZS, S_49 = zu S_46 61 9 (-1 : Int32) → (S_49.1 61 0 = 1 → N S_49) ∧ (¬ S_49.1 61 0 = 1 → False))) := fun t0 =>
      m_passes (fun _ => ⟨fun _ => ⟨fun _ => hN _ (hI.thrown 1), fun z => absurd thr_at z⟩, fun z => absurd rfl z⟩) (fun z => absurd z (by decide)) (fun z => absurd z (by decide))
    exact m_areBounds7 (fun _ => ⟨fun _ => key 1, fun _ => key 0⟩) (fun _ => ⟨fun _ => key 1, fun _ => key 0⟩)
