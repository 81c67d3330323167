/-! column(), on both sides -/
def zlim (m : Int) (y : Int32) : Prop := -m ≤ y.toInt ∧ y.toInt ≤ m
theorem nI10 {n : Nat} (h : n ≤ 10) : nI n < 10 ↔ n < 10 := by
  show nI n < nI 10 ↔ n < 10
  exact nI_ltI (by omega) (by omega)
theorem x6_column {y1 y2 y3 : Int32} {S : ZS} {Q : Int32 → ZS → Prop} {X : String → ZS → Prop} {nc : Nat} (hc : S.1 1 0 = nI nc) (hn : nc ≤ 10) (h1 : nc = 10 → X "java/lang/IllegalStateException" S) (h2 : nc < 10 → ¬ (zok y1 y2 ∧ zlim 1000 y3) → X "java/lang/IllegalArgumentException" S)
    (h0 : nc < 10 → zok y1 y2 → zlim 1000 y3 → Q (nI nc) (zu (zu (zu (zu (zu S 0 7 0) 8 nc y1) 9 nc y2) 10 nc y3) 1 0 (nI (nc + 1)))) : X6_column y1 y2 y3 S Q X := by
  unfold X6_column X6_column_b40
  have e : (1000 : Int32).toInt = 1000 := by decide
  refine ⟨fun c => ?_, fun c => ?_⟩
  · rw [hc, nI10 hn] at c
    refine m_areBounds6 (fun g => ⟨fun z => absurd z (by decide), fun _ => ?_⟩) (fun g => ⟨fun _ => h2 c (fun q => g q.1), fun z => absurd rfl z⟩)
    refine m_isWithin (by decide) ⟨fun z => ?_, fun z => ?_⟩
    · rw [zb_0, e] at z
      exact h2 c (fun q => z q.2)
    · rw [zb_0, e] at z
      have g3 : zlim 1000 y3 := Classical.not_not.mp z
      intro T eT
      unfold X5_addColumn
      intro x ex
      have ex2 : x = nI nc := by rw [ex, eT, zu_ne (by decide)]; exact hc
      subst ex2
      have hin : vp_in (nI nc) 10 := vp_in_nI c (by omega)
      have hcl : (nI nc).toNatClampNeg = nc := nI_clamp (by omega)
      refine ⟨hin, fun T1 e1 => ⟨hin, fun T2 e2 => ⟨hin, fun T3 e3 T4 e4 => ?_⟩⟩⟩
      rw [hcl] at e1 e2 e3
      rw [nI_1] at e4
      subst e4 e3 e2 e1 eT
      exact h0 c g g3
  · rw [hc, nI10 hn] at c
    exact h1 (by omega)
/-- what the reference's column() leaves behind -/
def zcol (S T : ZS) (nc : Nat) (y1 y2 y3 : Int32) (rows : Nat) : Prop :=
  T.2 = S.2 ∧ (∀ n, n ≠ 61 → n ≠ 62 → n ≠ 63 → n ≠ 64 → n ≠ 67 → T.1 n = S.1 n) ∧ (∀ j, j ≠ 0 → j ≠ 1 → j ≠ 9 → T.1 61 j = S.1 61 j) ∧ T.1 61 0 = 0 ∧ (∀ c, T.1 62 c = if c = nc then y1 else S.1 62 c) ∧ (∀ c, T.1 63 c = if c = nc then y2 else S.1 63 c) ∧ (∀ c, T.1 64 c = if c = nc then y3 else S.1 64 c) ∧ (∀ r, r < rows → T.1 67 (10 * r + nc) = 0) ∧ ∀ j, (∀ r, r < 8 → j ≠ 10 * r + nc) → T.1 67 j = S.1 67 j
theorem x7_column {y1 y2 y3 : Int32} {S : ZS} {Q : Int32 → ZS → Prop} {nc : Nat} (hc : S.1 61 1 = nI nc) (hn : nc ≤ 10) (h1 : nc = 10 → Q 0 (zu S 61 0 1)) (h2 : nc < 10 → ¬ (zok y1 y2 ∧ zlim 1000 y3) → Q 0 (zu S 61 0 2))
    (h0 : nc < 10 → zok y1 y2 → zlim 1000 y3 → ∀ T, zcol S T nc y1 y2 y3 8 → T.1 61 1 = nI (nc + 1) → T.1 61 9 = -1 → Q (nI nc) T) : X7_column y1 y2 y3 S Q := by
  have e : (1000 : Int64).toInt = 1000 := by decide
  have e2 : (-1000 : Int64).toInt = -1000 := by decide
  have e10 : nI nc = (10 : Int32) ↔ nc = 10 := by
    show nI nc = nI 10 ↔ nc = 10
    exact nI_eq (by omega) (by omega)
  -- what follows the tests
  have key : ∀ (t0 t1 : Int32), (t1 = 0 ↔ nc < 10) → (t0 = 0 ↔ zok y1 y2 ∧ zlim 1000 y3) → X7_column_b42 y1 y2 y3 t0 t1 S Q := by
    intro t0 t1 ht1 ht0
    unfold X7_column_b42
    refine m_passes (fun g => ⟨fun _ => h1 ?_, fun z => absurd rfl z⟩) (fun g g2 => ⟨fun _ => h2 (ht1.mp g) (fun q => g2 (ht0.mpr q)), fun z => absurd rfl z⟩) (fun g g2 => ⟨fun z => absurd z (by decide), fun _ => ?_⟩)
    · have : ¬ nc < 10 := fun q => g (ht1.mpr q)
      omega
    · have c := ht1.mp g
      obtain ⟨g1, g3⟩ := ht0.mp g2
      have hin : vp_in (nI nc) 10 := vp_in_nI c (by omega)
      have hcl : (nI nc).toNatClampNeg = nc := nI_clamp (by omega)
      have r0 : (zu S 61 0 0).1 61 1 = nI nc := by rw [zu_at, if_neg (by omega)]; exact hc
      rw [r0]
      refine ⟨hin, fun T1 e1 => ?_⟩
      rw [hcl] at e1
      have r1 : T1.1 61 1 = nI nc := by rw [e1, zu_ne (by decide)]; exact r0
      rw [r1]
      refine ⟨hin, fun T2 e2 => ?_⟩
      rw [hcl] at e2
      have r2 : T2.1 61 1 = nI nc := by rw [e2, zu_ne (by decide)]; exact r1
      rw [r2]
      refine ⟨hin, fun T3 e3 => ?_⟩
      rw [hcl] at e3
      have r3 : T3.1 61 1 = nI nc := by rw [e3, zu_ne (by decide)]; exact r2
      have b0 : zcol S T3 nc y1 y2 y3 0 := by
        subst e3 e2 e1
        refine ⟨rfl, fun n a1 a2 a3 a4 a5 => ?_, fun j a1 a2 a3 => ?_, ?_, fun cc => ?_, fun cc => ?_, fun cc => ?_, fun r h => absurd h (Nat.not_lt_zero _), fun j _ => ?_⟩
        · rw [zu_ne a4, zu_ne a3, zu_ne a2, zu_ne a1]
        · rw [zu_ne (by decide), zu_ne (by decide), zu_ne (by decide), zu_at, if_neg (by omega)]
        · rw [zu_ne (by decide), zu_ne (by decide), zu_ne (by decide), zu_at, if_pos ⟨rfl, rfl⟩]
        · rw [zu_ne (by decide), zu_ne (by decide), zu_at, zu_ne (by decide)]
          by_cases g : cc = nc <;> simp [g]
        · rw [zu_ne (by decide), zu_at, zu_ne (by decide), zu_ne (by decide)]
          by_cases g : cc = nc <;> simp [g]
        · rw [zu_at, zu_ne (by decide), zu_ne (by decide), zu_ne (by decide)]
          by_cases g : cc = nc <;> simp [g]
        · rw [zu_ne (by decide), zu_ne (by decide), zu_ne (by decide), zu_ne (by decide)]
      show zl (X7_column_L83 Q) (nI 0, T3)
      refine zl_up 8 (fun i T => zcol S T nc y1 y2 y3 i ∧ T.1 61 1 = nI nc) (by omega) (fun i T k hi hJ hk => ?_) T3 ⟨b0, r3⟩
      obtain ⟨hJ, hT1⟩ := hJ
      show X7_column_B83 (nI i) T Q k
      unfold X7_column_B83
      refine ⟨fun z => ?_, fun z => ?_⟩
      · have hi8 : i = 8 := by
          have z2 : nI 8 ≤ nI i := z
          rw [nI_leI (by omega) (by omega)] at z2
          omega
        subst hi8
        unfold X7_column_b112
        intro U1 u1 U2 u2
        have v1 : U2.1 61 1 = nI (nc + 1) := by
          rw [u2, zu_at, if_neg (by omega), u1, zu_at, if_pos ⟨rfl, rfl⟩, hT1, nI_1]
        rw [v1, show nI (nc + 1) - 1 = nI nc from nI_pred nc]
        refine h0 c g1 g3 U2 ?_ v1 (by rw [u2, zu_at, if_pos ⟨rfl, rfl⟩])
        obtain ⟨w1, w2, w3, w4, w5, w6, w7, w8, w9⟩ := hJ
        subst u2 u1
        refine ⟨w1, fun n a1 a2 a3 a4 a5 => ?_, fun j a1 a2 a3 => ?_, ?_, fun cc => ?_, fun cc => ?_, fun cc => ?_, fun r h => ?_, fun j h => ?_⟩
        · rw [zu_ne a1, zu_ne a1]; exact w2 n a1 a2 a3 a4 a5
        · rw [zu_at, if_neg (by omega), zu_at, if_neg (by omega)]; exact w3 j a1 a2 a3
        · rw [zu_at, if_neg (by omega), zu_at, if_neg (by omega)]; exact w4
        · rw [zu_ne (by decide), zu_ne (by decide)]; exact w5 cc
        · rw [zu_ne (by decide), zu_ne (by decide)]; exact w6 cc
        · rw [zu_ne (by decide), zu_ne (by decide)]; exact w7 cc
        · rw [zu_ne (by decide), zu_ne (by decide)]; exact w8 r h
        · rw [zu_ne (by decide), zu_ne (by decide)]; exact w9 j h
      · have hi8 : i < 8 := by
          rcases Nat.lt_or_ge i 8 with q | q
          · exact q
          · exact absurd (show nI 8 ≤ nI i from nI_le q (by omega)) z
        have ei : ((10 : Int32) * nI i) + T.1 61 1 = nI (10 * i + nc) := by
          rw [hT1, show (10 : Int32) = nI 10 from rfl, pk_mul, nI_add]
        rw [ei]
        refine ⟨vp_in_nI (by omega) (by omega), fun U1 u1 x ex => ?_⟩
        rw [nI_clamp (by omega)] at u1
        rw [nI_1] at ex
        subst ex
        refine hk hi8 U1 ⟨?_, by rw [u1, zu_ne (by decide)]; exact hT1⟩
        obtain ⟨w1, w2, w3, w4, w5, w6, w7, w8, w9⟩ := hJ
        subst u1
        refine ⟨w1, fun n a1 a2 a3 a4 a5 => ?_, fun j a1 a2 a3 => ?_, ?_, fun cc => ?_, fun cc => ?_, fun cc => ?_, fun r h => ?_, fun j h => ?_⟩
        · rw [zu_ne a5]; exact w2 n a1 a2 a3 a4 a5
        · rw [zu_ne (by decide)]; exact w3 j a1 a2 a3
        · rw [zu_ne (by decide)]; exact w4
        · rw [zu_ne (by decide)]; exact w5 cc
        · rw [zu_ne (by decide)]; exact w6 cc
        · rw [zu_ne (by decide)]; exact w7 cc
        · rw [zu_at]
          by_cases g : r = i
          · subst g; rw [if_pos ⟨rfl, rfl⟩]
          · rw [if_neg (by omega)]; exact w8 r (by omega)
        · rw [zu_at, if_neg (fun q => h i hi8 q.2)]; exact w9 j h
  have k37 : ∀ t1 : Int32, (t1 = 0 ↔ nc < 10) → X7_column_b15 y1 y2 y3 t1 S Q := by
    intro t1 ht1
    unfold X7_column_b15 X7_column_b37
    refine m_areBounds7 (fun g => ⟨fun z => absurd z (by decide), fun _ => ?_⟩) (fun g => ⟨fun _ => key 1 t1 ht1 ⟨fun z => absurd z (by decide), fun q => absurd q.1 g⟩, fun z => absurd rfl z⟩)
    refine m_within ⟨fun z => ?_, fun z => ?_⟩
    · rw [zb_0, e, e2, l_i] at z
      exact key 1 t1 ht1 ⟨fun q => absurd q (by decide), fun q => absurd q.2 z⟩
    · rw [zb_0, e, e2, l_i] at z
      exact key 0 t1 ht1 ⟨fun _ => ⟨g, Classical.not_not.mp z⟩, fun _ => rfl⟩
  unfold X7_column
  rw [hc]
  refine ⟨fun c => ?_, fun c => ?_⟩
  · rw [e10] at c
    exact k37 1 ⟨fun z => absurd z (by decide), fun z => by omega⟩
  · rw [e10] at c
    exact k37 0 ⟨fun _ => by omega, fun _ => rfl⟩
