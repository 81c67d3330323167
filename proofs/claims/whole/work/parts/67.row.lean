/-! row(), clear() -/
theorem x6_row {y1 y2 : Int32} {S : ZS} {Q : Int32 → ZS → Prop} {X : String → ZS → Prop} {nr : Nat} (hc : S.1 1 1 = nI nr) (hn : nr ≤ 8) (h1 : nr = 8 → X "java/lang/IllegalStateException" S) (h2 : nr < 8 → ¬ ((y1 = 0 ∨ y1 = 1) ∧ zlim 100000 y2) → X "java/lang/IllegalArgumentException" S)
    (h0 : nr < 8 → (y1 = 0 ∨ y1 = 1) → zlim 100000 y2 → Q (nI nr) (zu (zu (zu (zu S 0 7 0) 11 nr y1) 12 nr y2) 1 1 (nI (nr + 1)))) : X6_row y1 y2 S Q X := by
  have e : (100000 : Int32).toInt = 100000 := by decide
  have e8 : nI nr < (8 : Int32) ↔ nr < 8 := by
    show nI nr < nI 8 ↔ nr < 8
    exact nI_ltI (by omega) (by omega)
  have key : nr < 8 → (y1 = 0 ∨ y1 = 1) → X6_row_b36 y1 y2 (1 : Int32) S Q X := by
    intro c hk
    unfold X6_row_b36 X6_row_b50
    refine ⟨fun z => absurd z (by decide), fun _ => ?_⟩
    refine m_isWithin (by decide) ⟨fun z => ?_, fun z => ?_⟩
    · rw [zb_0, e] at z
      exact h2 c (fun q => z q.2)
    · rw [zb_0, e] at z
      have g3 : zlim 100000 y2 := Classical.not_not.mp z
      intro T eT
      unfold X5_addRow
      intro x ex
      have ex2 : x = nI nr := by rw [ex, eT, zu_ne (by decide)]; exact hc
      subst ex2
      have hin : vp_in (nI nr) 8 := vp_in_nI c (by omega)
      have hcl : (nI nr).toNatClampNeg = nr := nI_clamp (by omega)
      refine ⟨hin, fun T1 e1 => ⟨hin, fun T2 e2 T3 e3 => ?_⟩⟩
      rw [hcl] at e1 e2
      rw [nI_1] at e3
      subst e3 e2 e1 eT
      exact h0 c hk g3
  unfold X6_row X6_row_b31
  rw [hc]
  refine ⟨fun c => ⟨fun z => ?_, fun z => ⟨fun z2 => ?_, fun z2 => ?_⟩⟩, fun c => ?_⟩
  · rw [e8] at c; exact key c (Or.inl z)
  · rw [e8] at c; exact key c (Or.inr z2)
  · rw [e8] at c
    unfold X6_row_b36 X6_row_b50
    exact ⟨fun _ => h2 c (fun q => q.1.elim z z2), fun q => absurd rfl q⟩
  · rw [e8] at c
    exact h1 (by omega)
def zrow (S T : ZS) (nr : Nat) (y1 y2 : Int32) (cols : Nat) : Prop :=
  T.2 = S.2 ∧ (∀ n, n ≠ 61 → n ≠ 65 → n ≠ 66 → n ≠ 67 → T.1 n = S.1 n) ∧ (∀ j, j ≠ 0 → j ≠ 2 → j ≠ 9 → T.1 61 j = S.1 61 j) ∧ T.1 61 0 = 0 ∧ (∀ c, T.1 65 c = if c = nr then y1 else S.1 65 c) ∧ (∀ c, T.1 66 c = if c = nr then y2 else S.1 66 c) ∧ (∀ c, c < cols → T.1 67 (10 * nr + c) = 0) ∧ ∀ j, (∀ c, c < 10 → j ≠ 10 * nr + c) → T.1 67 j = S.1 67 j
theorem x7_row {y1 y2 : Int32} {S : ZS} {Q : Int32 → ZS → Prop} {nr : Nat} (hc : S.1 61 2 = nI nr) (hn : nr ≤ 8) (h1 : nr = 8 → Q 0 (zu S 61 0 1)) (h2 : nr < 8 → ¬ ((y1 = 0 ∨ y1 = 1) ∧ zlim 100000 y2) → Q 0 (zu S 61 0 2))
    (h0 : nr < 8 → (y1 = 0 ∨ y1 = 1) → zlim 100000 y2 → ∀ T, zrow S T nr y1 y2 10 → T.1 61 2 = nI (nr + 1) → T.1 61 9 = -1 → Q (nI nr) T) : X7_row y1 y2 S Q := by
  have e : (100000 : Int64).toInt = 100000 := by decide
  have e2 : (-100000 : Int64).toInt = -100000 := by decide
  have f0 : (0 : Int64).toInt = 0 := by decide
  have f1 : (1 : Int64).toInt = 1 := by decide
  have ek : (y1 = 0 ∨ y1 = 1) ↔ (0 ≤ y1.toInt ∧ y1.toInt ≤ 1) := by
    have a0 : (0 : Int32).toInt = 0 := by decide
    have a1 : (1 : Int32).toInt = 1 := by decide
    rw [i_eq, i_eq, a0, a1]
    omega
  have e10 : nI nr = (8 : Int32) ↔ nr = 8 := by
    show nI nr = nI 8 ↔ nr = 8
    exact nI_eq (by omega) (by omega)
  have key : ∀ (t0 t1 : Int32), (t1 = 0 ↔ nr < 8) → (t0 = 0 ↔ (y1 = 0 ∨ y1 = 1) ∧ zlim 100000 y2) → X7_row_b44 y1 y2 t0 t1 S Q := by
    intro t0 t1 ht1 ht0
    unfold X7_row_b44
    refine m_passes (fun g => ⟨fun _ => h1 ?_, fun z => absurd rfl z⟩) (fun g g2 => ⟨fun _ => h2 (ht1.mp g) (fun q => g2 (ht0.mpr q)), fun z => absurd rfl z⟩) (fun g g2 => ⟨fun z => absurd z (by decide), fun _ => ?_⟩)
    · have : ¬ nr < 8 := fun q => g (ht1.mpr q)
      omega
    · have c := ht1.mp g
      obtain ⟨g1, g3⟩ := ht0.mp g2
      have hin : vp_in (nI nr) 8 := vp_in_nI c (by omega)
      have hcl : (nI nr).toNatClampNeg = nr := nI_clamp (by omega)
      have r0 : (zu S 61 0 0).1 61 2 = nI nr := by rw [zu_at, if_neg (by omega)]; exact hc
      rw [r0]
      refine ⟨hin, fun T1 e1 => ?_⟩
      rw [hcl] at e1
      have r1 : T1.1 61 2 = nI nr := by rw [e1, zu_ne (by decide)]; exact r0
      rw [r1]
      refine ⟨hin, fun T3 e3 => ?_⟩
      rw [hcl] at e3
      have r3 : T3.1 61 2 = nI nr := by rw [e3, zu_ne (by decide)]; exact r1
      have b0 : zrow S T3 nr y1 y2 0 := by
        subst e3 e1
        refine ⟨rfl, fun n a1 a2 a3 a4 => ?_, fun j a1 a2 a3 => ?_, ?_, fun cc => ?_, fun cc => ?_, fun r h => absurd h (Nat.not_lt_zero _), fun j _ => ?_⟩
        · rw [zu_ne a3, zu_ne a2, zu_ne a1]
        · rw [zu_ne (by decide), zu_ne (by decide), zu_at, if_neg (by omega)]
        · rw [zu_ne (by decide), zu_ne (by decide), zu_at, if_pos ⟨rfl, rfl⟩]
        · rw [zu_ne (by decide), zu_at, zu_ne (by decide)]
          by_cases g : cc = nr <;> simp [g]
        · rw [zu_at, zu_ne (by decide), zu_ne (by decide)]
          by_cases g : cc = nr <;> simp [g]
        · rw [zu_ne (by decide), zu_ne (by decide), zu_ne (by decide)]
      show zl (X7_row_L74 Q) (nI 0, T3)
      refine zl_up 10 (fun i T => zrow S T nr y1 y2 i ∧ T.1 61 2 = nI nr) (by omega) (fun i T k hi hJ hk => ?_) T3 ⟨b0, r3⟩
      obtain ⟨hJ, hT1⟩ := hJ
      show X7_row_B74 (nI i) T Q k
      unfold X7_row_B74
      refine ⟨fun z => ?_, fun z => ?_⟩
      · have hi8 : i = 10 := by
          have z2 : nI 10 ≤ nI i := z
          rw [nI_leI (by omega) (by omega)] at z2
          omega
        subst hi8
        unfold X7_row_b101
        intro U1 u1 U2 u2
        have v1 : U2.1 61 2 = nI (nr + 1) := by
          rw [u2, zu_at, if_neg (by omega), u1, zu_at, if_pos ⟨rfl, rfl⟩, hT1, nI_1]
        rw [v1, show nI (nr + 1) - 1 = nI nr from nI_pred nr]
        refine h0 c g1 g3 U2 ?_ v1 (by rw [u2, zu_at, if_pos ⟨rfl, rfl⟩])
        obtain ⟨w1, w2, w3, w4, w5, w6, w8, w9⟩ := hJ
        subst u2 u1
        refine ⟨w1, fun n a1 a2 a3 a4 => ?_, fun j a1 a2 a3 => ?_, ?_, fun cc => ?_, fun cc => ?_, fun r h => ?_, fun j h => ?_⟩
        · rw [zu_ne a1, zu_ne a1]; exact w2 n a1 a2 a3 a4
        · rw [zu_at, if_neg (by omega), zu_at, if_neg (by omega)]; exact w3 j a1 a2 a3
        · rw [zu_at, if_neg (by omega), zu_at, if_neg (by omega)]; exact w4
        · rw [zu_ne (by decide), zu_ne (by decide)]; exact w5 cc
        · rw [zu_ne (by decide), zu_ne (by decide)]; exact w6 cc
        · rw [zu_ne (by decide), zu_ne (by decide)]; exact w8 r h
        · rw [zu_ne (by decide), zu_ne (by decide)]; exact w9 j h
      · have hi8 : i < 10 := by
          rcases Nat.lt_or_ge i 10 with q | q
          · exact q
          · exact absurd (show nI 10 ≤ nI i from nI_le q (by omega)) z
        have ei : ((10 : Int32) * T.1 61 2) + nI i = nI (10 * nr + i) := by
          rw [hT1, show (10 : Int32) = nI 10 from rfl, pk_mul, nI_add]
        rw [ei]
        refine ⟨vp_in_nI (by omega) (by omega), fun U1 u1 x ex => ?_⟩
        rw [nI_clamp (by omega)] at u1
        rw [nI_1] at ex
        subst ex
        refine hk hi8 U1 ⟨?_, by rw [u1, zu_ne (by decide)]; exact hT1⟩
        obtain ⟨w1, w2, w3, w4, w5, w6, w8, w9⟩ := hJ
        subst u1
        refine ⟨w1, fun n a1 a2 a3 a4 => ?_, fun j a1 a2 a3 => ?_, ?_, fun cc => ?_, fun cc => ?_, fun r h => ?_, fun j h => ?_⟩
        · rw [zu_ne a4]; exact w2 n a1 a2 a3 a4
        · rw [zu_ne (by decide)]; exact w3 j a1 a2 a3
        · rw [zu_ne (by decide)]; exact w4
        · rw [zu_ne (by decide)]; exact w5 cc
        · rw [zu_ne (by decide)]; exact w6 cc
        · rw [zu_at]
          by_cases g : r = i
          · subst g; rw [if_pos ⟨rfl, rfl⟩]
          · rw [if_neg (by omega)]; exact w8 r (by omega)
        · rw [zu_at, if_neg (fun q => h i hi8 q.2)]; exact w9 j h
  have k37 : ∀ t1 : Int32, (t1 = 0 ↔ nr < 8) → X7_row_b15 y1 y2 t1 S Q := by
    intro t1 ht1
    unfold X7_row_b15 X7_row_b39
    refine m_within ⟨fun g => ?_, fun g => ?_⟩
    · rw [zb_0, f0, f1, l_i, ← ek] at g
      exact key 1 t1 ht1 ⟨fun z => absurd z (by decide), fun q => absurd q.1 g⟩
    · rw [zb_0, f0, f1, l_i, ← ek] at g
      refine m_within ⟨fun z => ?_, fun z => ?_⟩
      · rw [zb_0, e, e2, l_i] at z
        exact key 1 t1 ht1 ⟨fun q => absurd q (by decide), fun q => absurd q.2 z⟩
      · rw [zb_0, e, e2, l_i] at z
        exact key 0 t1 ht1 ⟨fun _ => ⟨Classical.not_not.mp g, Classical.not_not.mp z⟩, fun _ => rfl⟩
  unfold X7_row
  rw [hc]
  refine ⟨fun c => ?_, fun c => ?_⟩
  · rw [e10] at c
    exact k37 1 ⟨fun z => absurd z (by decide), fun z => by omega⟩
  · rw [e10] at c
    exact k37 0 ⟨fun _ => by omega, fun _ => rfl⟩
theorem k_1 {y1 y2 y3 : Int32} {S : ZS} {N : ZS → Prop} (h : Inv S) (hN : ∀ T, Inv T → N T) : lawc_1 y1 y2 y3 S N := by
  have hI := h
  obtain ⟨nc, nr, hC, hSol⟩ := h
  obtain ⟨h1, h2, h3, h4, h5, h6, h7, h8, h9, h10, h11⟩ := hC
  unfold lawc_1 L_row X7_thrown
  refine x6_row h4 h2 (fun hx => Or.inl ⟨rfl, ?_⟩) (fun hx hy => Or.inr ⟨rfl, ?_⟩) (fun hx hy hz => ?_)
  · exact x7_row h6 h2 (fun _ => ⟨fun _ => ⟨fun g => absurd g (by decide), fun _ => hN _ (hI.thrown 1)⟩, fun g => absurd thr_at g⟩) (fun g => by omega) (fun g => by omega)
  · exact x7_row h6 h2 (fun g => by omega) (fun _ _ => ⟨fun _ => ⟨fun g => absurd g (by decide), fun _ => hN _ (hI.thrown 2)⟩, fun g => absurd thr_at g⟩) (fun _ g1 g2 => absurd ⟨g1, g2⟩ hy)
  · intro U eU
    have eU1 : ∀ n j, U.1 n j = if n = 1 ∧ j = 1 then nI (nr + 1) else if n = 12 ∧ j = nr then y2 else if n = 11 ∧ j = nr then y1 else if n = 0 ∧ j = 7 then 0 else S.1 n j := fun n j => by rw [eU, zw_1, zu_at, zu_at, zu_at, zu_at]
    have hU : ∀ n, n ≠ 0 → n ≠ 1 → n ≠ 11 → n ≠ 12 → U.1 n = S.1 n := fun n a1 a2 a3 a4 => by
      funext j
      rw [eU1, if_neg (by omega), if_neg (by omega), if_neg (by omega), if_neg (by omega)]
    refine x7_row (nr := nr) (by rw [hU 61 (by decide) (by decide) (by decide) (by decide)]; exact h6) h2 (fun g => by omega) (fun _ g => absurd ⟨hy, hz⟩ g) (fun _ _ _ T hT hT1 hT9 => ?_)
    obtain ⟨w1, w2, w3, w4, w5, w6, w8, w9⟩ := hT
    refine ⟨fun _ => ⟨fun _ => ⟨fun _ => hN T ?_, fun g => absurd ?_ g⟩, fun g => absurd rfl g⟩, fun g => absurd w4 g⟩
    · have cl : ∀ n j, n ≠ 61 → n ≠ 65 → n ≠ 66 → n ≠ 67 → T.1 n j = U.1 n j := fun n j a b c d => by rw [w2 n a b c d]
      have tS : ∀ n j, n ≠ 0 → n ≠ 1 → n ≠ 11 → n ≠ 12 → n ≠ 61 → n ≠ 65 → n ≠ 66 → n ≠ 67 → T.1 n j = S.1 n j := fun n j a1 a2 a3 a4 a b c d => by rw [cl n j a b c d, hU n a1 a2 a3 a4]
      refine ⟨nc, nr + 1, ⟨h1, by omega, ?_, ?_, ?_, hT1, fun c hc => ?_, fun r hr => ?_, fun r c hr hc => ?_, fun r c hr hc => ?_, fun r c hr hc hh => ?_⟩, Or.inl ⟨?_, hT9⟩⟩
      · rw [cl 1 0 (by decide) (by decide) (by decide) (by decide), eU1]; simpa using h3
      · rw [cl 1 1 (by decide) (by decide) (by decide) (by decide), eU1]; simp
      · rw [w3 1 (by decide) (by decide) (by decide), hU 61 (by decide) (by decide) (by decide) (by decide)]; exact h5
      · rw [tS 62 c (by decide) (by decide) (by decide) (by decide) (by decide) (by decide) (by decide) (by decide), tS 63 c (by decide) (by decide) (by decide) (by decide) (by decide) (by decide) (by decide) (by decide), tS 64 c (by decide) (by decide) (by decide) (by decide) (by decide) (by decide) (by decide) (by decide), tS 8 c (by decide) (by decide) (by decide) (by decide) (by decide) (by decide) (by decide) (by decide), tS 9 c (by decide) (by decide) (by decide) (by decide) (by decide) (by decide) (by decide) (by decide), tS 10 c (by decide) (by decide) (by decide) (by decide) (by decide) (by decide) (by decide) (by decide)]
        exact h7 c hc
      · rw [w5, w6, cl 11 r (by decide) (by decide) (by decide) (by decide), cl 12 r (by decide) (by decide) (by decide) (by decide), hU 65 (by decide) (by decide) (by decide) (by decide), hU 66 (by decide) (by decide) (by decide) (by decide), eU1 11, eU1 12]
        by_cases g : r = nr
        · simpa [g] using ⟨hy, hz⟩
        · simpa [g] using h8 r (by omega)
      · rw [tS (14 + r) c (by omega) (by omega) (by omega) (by omega) (by omega) (by omega) (by omega) (by omega)]
        by_cases g : r = nr
        · subst g
          rw [w8 c (by omega), h11 r c (by omega) (by omega) (Or.inl (Nat.le_refl _))]
        · rw [w9 _ (fun c9 h => by omega), hU 67 (by decide) (by decide) (by decide) (by decide)]
          exact h9 r c (by omega) hc
      · rw [tS (14 + r) c (by omega) (by omega) (by omega) (by omega) (by omega) (by omega) (by omega) (by omega)]
        exact h10 r c hr hc
      · rw [tS (14 + r) c (by omega) (by omega) (by omega) (by omega) (by omega) (by omega) (by omega) (by omega)]
        exact h11 r c hr hc (by omega)
      · rw [cl 0 7 (by decide) (by decide) (by decide) (by decide), eU1]; simp
    · rw [lg_eq, w1, eU, zw_at, if_pos ⟨rfl, rfl⟩]
/-- Arrays.fill -/
theorem m_fill {n len : Nat} {v : Int32} {S : ZS} {Q : ZS → Prop} (hl : len < 2 ^ 31) (h : ∀ T, T.2 = S.2 → (∀ m, m ≠ n → T.1 m = S.1 m) → (∀ j, T.1 n j = if j < len then v else S.1 n j) → Q T) : J7_fill_53178 n len v S Q := by
  unfold J7_fill_53178
  intro x ex
  subst ex
  show zl (J7_fill_53178_L5 n len v (nI len) Q) (nI 0, S)
  refine zl_up len (fun i T => T.2 = S.2 ∧ (∀ m, m ≠ n → T.1 m = S.1 m) ∧ ∀ j, T.1 n j = if j < i then v else S.1 n j) hl (fun i T k hi hJ hk => ?_) S ⟨rfl, fun _ _ => rfl, fun j => by simp⟩
  obtain ⟨w1, w2, w3⟩ := hJ
  show J7_fill_53178_B5 n len v (nI len) (nI i) T Q k
  unfold J7_fill_53178_B5 J7_fill_53178_b20
  refine ⟨fun z => ?_, fun z => ?_⟩
  · rw [nI_leI hl (by omega)] at z
    have : i = len := by omega
    subst this
    exact h T w1 w2 w3
  · have hlt : i < len := by
      rcases Nat.lt_or_ge i len with q | q
      · exact q
      · exact absurd (nI_le q (by omega)) z
    refine ⟨vp_in_nI hlt hl, fun U u x ex => ?_⟩
    rw [nI_clamp (by omega)] at u
    rw [nI_1] at ex
    subst ex
    refine hk hlt U ⟨by rw [u]; exact w1, fun m hm => by rw [u, zu_ne hm]; exact w2 m hm, fun j => ?_⟩
    rw [u, zu_at, w3]
    by_cases g : j = i
    · simp [g]
    · simp only [g, and_false, if_false]
      by_cases g2 : j < i
      · rw [if_pos g2, if_pos (by omega)]
      · rw [if_neg g2, if_neg (by omega)]
theorem x5_wipe {S : ZS} {Q : ZS → Prop} (h : ∀ T, T.2 = S.2 → (∀ m, m ≠ 1 → (m < 14 ∨ 21 < m) → T.1 m = S.1 m) → (∀ r c, r < 8 → c < 10 → T.1 (14 + r) c = 0) → T.1 1 0 = 0 → T.1 1 1 = 0 → Q T) : X5_wipe S Q := by
  unfold X5_wipe
  show zl (X5_wipe_L2 Q) (nI 0, S)
  refine zl_up 8 (fun i T => T.2 = S.2 ∧ (∀ m, m < 14 ∨ 21 < m → T.1 m = S.1 m) ∧ ∀ r c, r < i → c < 10 → T.1 (14 + r) c = 0) (by omega) (fun i T k hi hJ hk => ?_) S ⟨rfl, fun _ _ => rfl, fun r c h => absurd h (Nat.not_lt_zero _)⟩
  obtain ⟨w1, w2, w3⟩ := hJ
  show X5_wipe_B2 (nI i) T Q k
  unfold X5_wipe_B2 X5_wipe_b24
  refine ⟨fun z => ?_, fun z => ?_⟩
  · have z2 : nI 8 ≤ nI i := z
    rw [nI_leI (by omega) (by omega)] at z2
    have : i = 8 := by omega
    subst this
    intro U1 u1 U2 u2
    refine h U2 (by rw [u2, u1]; exact w1) (fun m m1 m2 => by rw [u2, u1, zu_ne m1, zu_ne m1]; exact w2 m m2) (fun r c hr hc => by rw [u2, u1, zu_ne (by omega), zu_ne (by omega)]; exact w3 r c hr hc) (by rw [u2, zu_at, if_neg (by decide), u1, zu_at, if_pos ⟨rfl, rfl⟩]) (by rw [u2, zu_at, if_pos ⟨rfl, rfl⟩])
  · have hlt : i < 8 := by
      rcases Nat.lt_or_ge i 8 with q | q
      · exact q
      · exact absurd (show nI 8 ≤ nI i from nI_le q (by omega)) z
    refine ⟨vp_in_nI hlt (by omega), ?_⟩
    rw [nI_clamp (by omega)]
    refine m_fill (by omega) (fun U u1 u2 u3 x ex => ?_)
    rw [nI_1] at ex
    subst ex
    refine hk hlt U ⟨u1.trans w1, fun m hm => by rw [u2 m (by omega)]; exact w2 m hm, fun r c hr hc => ?_⟩
    by_cases g : r = i
    · subst g
      rw [u3, if_pos hc]
    · rw [u2 _ (by omega)]
      exact w3 r c (by omega) hc
theorem k_6 {y1 y2 y3 : Int32} {S : ZS} {N : ZS → Prop} (h : Inv S) (hN : ∀ T, Inv T → N T) : lawc_6 y1 y2 y3 S N := by
  obtain ⟨nc, nr, hC, hSol⟩ := h
  obtain ⟨h1, h2, h3, h4, h5, h6, h7, h8, h9, h10, h11⟩ := hC
  unfold lawc_6 X6_clear X7_clear
  intro S1 e1 x ex
  refine x5_wipe (fun T w1 w2 w3 w4 w5 U1 u1 z ez U2 u2 U3 u3 U4 u4 => ?_)
  have ex2 : x = nI nc := by rw [ex, e1, zu_ne (by decide)]; exact h3
  have ez2 : z = nI nc := by rw [ez, u1, zu_at, if_neg (by decide), w2 61 (by decide) (by decide), e1, zu_ne (by decide)]; exact h5
  have q : ∀ n, n ≠ 61 → U4.1 n = T.1 n := fun n hn => by rw [u4, zu_ne hn, u3, zu_ne hn, u2, zu_ne hn, u1, zu_ne hn]
  have q61 : U4.1 61 1 = 0 ∧ U4.1 61 2 = 0 ∧ U4.1 61 9 = -1 := by
    refine ⟨?_, ?_, ?_⟩
    · rw [u4, zu_at, if_neg (by decide), u3, zu_at, if_neg (by decide), u2, zu_at, if_pos ⟨rfl, rfl⟩]
    · rw [u4, zu_at, if_neg (by decide), u3, zu_at, if_pos ⟨rfl, rfl⟩]
    · rw [u4, zu_at, if_pos ⟨rfl, rfl⟩]
  refine ⟨fun _ => hN U4 ⟨0, 0, ⟨by decide, by decide, by rw [q 1 (by decide)]; exact w4, by rw [q 1 (by decide)]; exact w5, q61.1, q61.2.1, fun c h => absurd h (Nat.not_lt_zero _), fun c h => absurd h (Nat.not_lt_zero _), fun r c h => absurd h (Nat.not_lt_zero _), fun r c hr hc => ?_, fun r c hr hc _ => ?_⟩, Or.inl ⟨?_, q61.2.2⟩⟩, fun g => absurd (ex2.trans ez2.symm) g⟩
  · rw [q _ (by omega), w3 r c hr hc]; unfold zlim; exact (by decide : -100 ≤ (0 : Int32).toInt ∧ (0 : Int32).toInt ≤ 100)
  · rw [q _ (by omega), w3 r c hr hc]
  · rw [q 0 (by decide), w2 0 (by decide) (by decide), e1, zu_at, if_pos ⟨rfl, rfl⟩]
