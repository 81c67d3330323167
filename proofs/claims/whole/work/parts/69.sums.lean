/-! value(), sum(), reduced() -/
theorem zl_up2 {α τ : Type} {b : α × Int32 × τ → (α × Int32 × τ → Prop) → Prop} (n : Nat) (J : Nat → α → τ → Prop) (hn : n < 2 ^ 31) (hs : ∀ (i : Nat) (x : α) (t : τ) (k : α × Int32 × τ → Prop), i ≤ n → J i x t → (i < n → ∀ x' t', J (i + 1) x' t' → k (x', nI (i + 1), t')) → b (x, nI i, t) k) (x0 : α) (t0 : τ) (h0 : J 0 x0 t0) : zl b (x0, nI 0, t0) := by
  refine zl_of (fun y => ∃ i, i ≤ n ∧ y.2.1 = nI i ∧ J i y.1 y.2.2) (fun y => n - y.2.1.toNatClampNeg) (fun y k hy hk => ?_) _ ⟨0, Nat.zero_le _, rfl, h0⟩
  obtain ⟨y1, y2, y3⟩ := y
  obtain ⟨i, hi, e, hJ⟩ := hy
  dsimp only at e hJ
  subst e
  refine hs i y1 y3 k hi hJ (fun hlt x' t' ht' => hk _ ⟨i + 1, hlt, rfl, ht'⟩ ?_)
  show n - (nI (i + 1)).toNatClampNeg < n - (nI i).toNatClampNeg
  rw [nI_clamp (by omega), nI_clamp (by omega)]
  omega
/-- the end of a counted loop, and its going on -/
theorem up_end {n i : Nat} (hn : n ≤ 10) (hi : i ≤ n) (h : nI n ≤ nI i) : i = n := by
  rw [nI_leI (by omega) (by omega)] at h
  omega
theorem up_on {n i : Nat} (hn : n ≤ 10) (hi : i ≤ n) (h : ¬ nI n ≤ nI i) : i < n := by
  rcases Nat.lt_or_ge i n with q | q
  · exact q
  · exact absurd (nI_le q (by omega)) h
theorem sum_congr {f g : Nat → Int32} {n : Nat} (h : ∀ c, c < n → f c = g c) : bx_sum f n = bx_sum g n := by
  induction n with
  | zero => rfl
  | succ n ih =>
    show bx_sum f n + f n = bx_sum g n + g n
    rw [ih (fun c hc => h c (by omega)), h n (by omega)]
theorem k_18 {y1 y2 y3 : Int32} {S : ZS} {N : ZS → Prop} (h : Inv S) (hN : ∀ T, Inv T → N T) : lawc_18 y1 y2 y3 S N := by
  have hI := h
  obtain ⟨nc, nr, hC, hSol⟩ := h
  obtain ⟨h1, h2, h3, h4, h5, h6, h7, h8, h9, h10, h11⟩ := hC
  obtain ⟨hb1, hb2⟩ := hSol.best
  unfold lawc_18 L_value X6_value X7_thrown
  refine x6_best (fun g => ?_) (fun g => ⟨rfl, ?_⟩)
  · refine zl_up2 nc (fun i x T => T = S ∧ x = bx_sum (fun c => S.1 10 c * S.1 7 c) i) (by omega) (fun i x T k hi hJ hk => ?_) 0 S ⟨rfl, rfl⟩
    obtain ⟨rfl, rfl⟩ := hJ
    show X6_value_B8 _ (nI i) T _ _ k
    unfold X6_value_B8 X6_value_b44
    rw [h3]
    refine ⟨fun z => ?_, fun z => ?_⟩
    · have := up_end h1 hi z
      subst this
      intro U eU
      have hU : ∀ n, U.1 n = T.1 n := fun n => by rw [eU, zw_1]
      unfold X7_value X7_value_b16 X7_value_b55
      refine ⟨fun _ => ?_, fun z => absurd (by rw [hU]; exact hb1.mpr g) z⟩
      refine m_passes (fun z => absurd rfl z) (fun _ z => absurd rfl z) (fun _ _ => ⟨fun z => absurd z (by decide), fun _ => ?_⟩)
      refine zl_up2 i (fun j x V => V = zu U 61 0 0 ∧ x = bx_sum (fun c => T.1 64 c * T.1 68 c) j) (by omega) (fun j x V k2 hj hJ hk2 => ?_) 0 _ ⟨rfl, rfl⟩
      obtain ⟨rfl, rfl⟩ := hJ
      show X7_value_B25 _ (nI j) _ _ k2
      unfold X7_value_B25 X7_value_b55
      have e1 : (zu U 61 0 0).1 61 1 = nI i := by rw [zu_at, if_neg (by decide), hU]; exact h5
      rw [e1]
      refine ⟨fun z => ?_, fun z => ?_⟩
      · have := up_end h1 hj z
        subst this
        refine zend_ok eU ?_ hI hN
        exact sum_congr (fun c hc => by rw [(h7 c hc).2.2.1, hb2 g c hc])
      · have hlt := up_on h1 hj z
        refine ⟨vp_in_nI (by omega) (by omega), vp_in_nI (by omega) (by omega), fun x ex w ew => ?_⟩
        rw [nI_1] at ew
        subst ew
        refine hk2 hlt _ _ ⟨rfl, ?_⟩
        rw [ex, nI_clamp (by omega), zu_ne (by decide), zu_ne (by decide), hU, hU]
        rfl
    · have hlt := up_on h1 hi z
      refine ⟨vp_in_nI (by omega) (by omega), vp_in_nI (by omega) (by omega), fun x ex w ew => ?_⟩
      rw [nI_1] at ew
      subst ew
      refine hk hlt _ _ ⟨rfl, ?_⟩
      rw [ex, nI_clamp (by omega)]
      rfl
  · unfold X7_value X7_value_b16 X7_value_b55
    refine ⟨fun z => absurd (hb1.mp z) g, fun _ => ?_⟩
    exact m_passes (fun _ => ⟨fun _ => zend_throw (by decide) hI hN, fun z => absurd rfl z⟩) (fun z => absurd z (by decide)) (fun z => absurd z (by decide))
/-- the reference's sum of a row, as an int -/
theorem x7_sumOf {r nc nr : Nat} {S : ZS} {Q : Int64 → ZS → Prop} (hc : S.1 61 1 = nI nc) (h1 : nc ≤ 10) (h2 : nr ≤ 8) (hr : r < nr) (h : ∀ v : Int64, v.toInt32 = bx_sum (fun c => S.1 67 (10 * r + c) * S.1 68 c) nc → Q v S) : X7_sumOf (nI r) S Q := by
  unfold X7_sumOf
  refine zl_up2 nc (fun j x V => V = S ∧ x.toInt32 = bx_sum (fun c => S.1 67 (10 * r + c) * S.1 68 c) j) (by omega) (fun j x V k2 hj hJ hk2 => ?_) 0 S ⟨rfl, rfl⟩
  obtain ⟨rfl, hx⟩ := hJ
  show X7_sumOf_B5 (nI r) x (nI j) V Q k2
  unfold X7_sumOf_B5 X7_sumOf_b40
  rw [hc]
  refine ⟨fun z => ?_, fun z => ?_⟩
  · have := up_end h1 hj z
    subst this
    exact h x hx
  · have hlt := up_on h1 hj z
    have ei : ((10 : Int32) * nI r) + nI j = nI (10 * r + j) := by
      rw [show (10 : Int32) = nI 10 from rfl, pk_mul, nI_add]
    unfold X7_coef
    rw [ei, nI_clamp (by omega)]
    refine ⟨vp_in_nI (by omega) (by omega), vp_in_nI (by omega) (by omega), fun x2 ex w ew => ?_⟩
    rw [nI_1] at ew
    subst ew
    refine hk2 hlt _ _ ⟨rfl, ?_⟩
    rw [ex, nI_clamp (by omega), Int64.toInt32_add, Int64.toInt32_mul, hx]
    simp only [Int32.toInt32_toInt64]
    rfl
theorem k_19 {y1 y2 y3 : Int32} {S : ZS} {N : ZS → Prop} (h : Inv S) (hN : ∀ T, Inv T → N T) : lawc_19 y1 y2 y3 S N := by
  have hI := h
  obtain ⟨nc, nr, hC, hSol⟩ := h
  obtain ⟨h1, h2, h3, h4, h5, h6, h7, h8, h9, h10, h11⟩ := hC
  obtain ⟨hb1, hb2⟩ := hSol.best
  unfold lawc_19 L_sum X6_sum X7_thrown
  refine x6_best (fun g => ?_) (fun g => Or.inl ⟨rfl, ?_⟩)
  · refine m_needRow h4 h2 (fun r hr er => ?_) (fun hx => Or.inr ⟨rfl, ?_⟩)
    · subst er
      have hclr : (nI r).toNatClampNeg = r := nI_clamp (by omega)
      refine zl_up2 nc (fun i x T => T = S ∧ x = bx_sum (fun c => S.1 (14 + r) c * S.1 7 c) i) (by omega) (fun i x T k hi hJ hk => ?_) 0 S ⟨rfl, rfl⟩
      obtain ⟨rfl, rfl⟩ := hJ
      show X6_sum_B13 (nI r) _ (nI i) T _ _ k
      unfold X6_sum_B13 X6_sum_b51
      rw [h3]
      refine ⟨fun z => ?_, fun z => ?_⟩
      · have := up_end h1 hi z
        subst this
        intro U eU
        have hU : ∀ n, U.1 n = T.1 n := fun n => by rw [eU, zw_1]
        unfold X7_sum X7_sum_b14 X7_sum_b27 X7_sum_b43
        refine ⟨fun _ => ?_, fun z => absurd (by rw [hU]; exact hb1.mpr g) z⟩
        refine m_isRow (n := nr) (by rw [hU]; exact h6) h2 (fun c' hc' ec' => ⟨fun z => absurd z (by decide), fun _ => ?_⟩) (fun hx => absurd rfl (hx r hr))
        refine m_passes (fun z => absurd rfl z) (fun _ z => absurd rfl z) (fun _ _ => ⟨fun z => absurd z (by decide), fun _ => ?_⟩)
        refine x7_sumOf (nc := i) (nr := nr) (by rw [zu_at, if_neg (by decide), hU]; exact h5) h1 h2 hr (fun v hv => ?_)
        refine zend_ok eU ?_ hI hN
        rw [hv]
        exact sum_congr (fun c hc => by rw [zu_ne (by decide), zu_ne (by decide), hU, hU, h9 r c hr hc, hb2 g c hc])
      · have hlt := up_on h1 hi z
        refine ⟨vp_in_nI (by omega) (by omega), vp_in_nI (by omega) (by omega), vp_in_nI (by omega) (by omega), fun x ex w ew => ?_⟩
        rw [nI_1] at ew
        subst ew
        refine hk hlt _ _ ⟨rfl, ?_⟩
        rw [ex, hclr, nI_clamp (by omega)]
        rfl
    · unfold X7_sum X7_sum_b14 X7_sum_b27 X7_sum_b43
      refine ⟨fun _ => ?_, fun z => absurd (hb1.mpr g) z⟩
      refine m_isRow h6 h2 (fun c' hc' ec' => absurd ec' (hx c' hc')) (fun _ => ⟨fun _ => ?_, fun z => absurd rfl z⟩)
      exact m_passes (fun z => absurd rfl z) (fun _ _ => ⟨fun _ => zend_throw (by decide) hI hN, fun z => absurd rfl z⟩) (fun _ z => absurd z (by decide))
  · unfold X7_sum X7_sum_b14 X7_sum_b27 X7_sum_b43
    refine ⟨fun z => absurd (hb1.mp z) g, fun _ => ?_⟩
    have key : ∀ t0 : Int32, X7_passes 1 t0 S (fun r_27 S_27 => (r_27 = 0 → zend 1 N 0 S_27) ∧ (¬ r_27 = 0 → X7_sumOf y1 S_27 (fun r_35 S_35 => zend 1 N (Int64.toInt32 r_35) S_35))) := fun t0 =>
      m_passes (fun _ => ⟨fun _ => zend_throw (by decide) hI hN, fun z => absurd rfl z⟩) (fun z => absurd z (by decide)) (fun z => absurd z (by decide))
    exact m_isRow h6 h2 (fun _ _ _ => ⟨fun _ => key 1, fun _ => key 0⟩) (fun _ => ⟨fun _ => key 1, fun _ => key 0⟩)
