/-! the product of the pivots of a graph's form, by its nodes -/
theorem rmulc {a b c : Rat} (hc : 0 < c) (h : c * a ≤ c * b) : a ≤ b := by
  rcases Rat.le_total (a := a) (b := b) with g | g
  · exact g
  · have e := Rat.mul_nonneg (a := c) (b := a - b) (by grind) (by grind)
    have e2 : c * (a - b) = 0 := by grind
    have e3 : a - b = c⁻¹ * (c * (a - b)) := by
      have : c ≠ 0 := by grind
      grind
    rw [e2] at e3
    grind
theorem hk_quad {a m X ρ F : Rat} (ha : 0 < a) (hF : 0 ≤ F) (h : ∀ y : Rat, (m * y + X) * (m * y + X) ≤ ρ * (a * (y * y) + F)) : 0 ≤ ρ - m * m / a ∧ X * X ≤ (ρ - m * m / a) * F := by
  have ra : m * m ≤ ρ * a := by
    -- large y
    rcases Rat.le_total (a := m * m) (b := ρ * a) with g | g
    · exact g
    · rcases Classical.em (m * m = ρ * a) with e | e
      · grind
      · exfalso
        have d : 0 < m * m - ρ * a := by grind
        generalize hK : ρ * F - X * X = K at *
        generalize hq : m * m - ρ * a = q at *
        have q0 : q ≠ 0 := by grind
        have w0 : 0 ≤ (K * K + 1) / q := by
          have e1 : (K * K + 1) / q = (K * K + 1) * q⁻¹ := by grind
          rw [e1]
          exact Rat.mul_nonneg (by have := rsq K; grind) (by have := rinv_pos d; grind)
        have y1 := h (1 + (K * K + 1) / q)
        have y2 := h (-(1 + (K * K + 1) / q))
        generalize hy : (K * K + 1) / q = w at *
        have qw : q * w = K * K + 1 := by rw [← hy]; grind
        have s1 : q * ((1 + w) * (1 + w)) ≤ K := by
          rw [← hq, ← hK]
          grind
        have s2 := Rat.mul_nonneg (a := q * (1 + w)) (b := w) (Rat.mul_nonneg (by grind) (by grind)) w0
        have s3 := rsq (K - 1)
        have s4 := rsq K
        grind
  have r0 : 0 ≤ ρ - m * m / a := by
    have e : ρ - m * m / a = (ρ * a - m * m) * a⁻¹ := by grind
    rw [e]
    exact Rat.mul_nonneg (by grind) (by have := rinv_pos ha; grind)
  refine ⟨r0, ?_⟩
  rcases Classical.em (ρ * a = m * m) with e | e
  · -- then m X = 0
    have z : ρ - m * m / a = 0 := by rw [← e]; grind
    rw [z]
    have x0 : X = 0 := by
      rcases Classical.em (X = 0) with g | g
      · exact g
      · exfalso
        rcases Classical.em (m = 0) with g2 | g2
        · subst g2
          have := h 0
          have r : ρ = 0 := by
            have : ρ = ρ * a * a⁻¹ := by grind
            rw [e] at this
            grind
          rw [r] at this
          have := rsq_pos g
          grind
        · have := h ((ρ * F) / (m * X))
          have mx : m * X ≠ 0 := fun q => g (by
            have : X = m⁻¹ * (m * X) := by grind
            rw [q] at this
            grind)
          have xx := rsq_pos g
          have k : (m * (ρ * F / (m * X)) + X) * (m * (ρ * F / (m * X)) + X) - ρ * (a * (ρ * F / (m * X) * (ρ * F / (m * X))) + F) = (m * m - ρ * a) * (ρ * F / (m * X) * (ρ * F / (m * X))) + 2 * (m * X) * (ρ * F / (m * X)) + X * X - ρ * F := by grind
          have k2 : 2 * (m * X) * (ρ * F / (m * X)) = 2 * (ρ * F) := by
            generalize m * X = q at *
            grind
          have k3 : m * m - ρ * a = 0 := by grind
          rw [k2, k3] at k
          have rho : 0 ≤ ρ := by
            have : ρ = ρ * a * a⁻¹ := by grind
            rw [this, e]
            exact Rat.mul_nonneg (rsq m) (by have := rinv_pos ha; grind)
          have := Rat.mul_nonneg rho hF
          grind
    rw [x0]
    grind
  · have d : 0 < ρ * a - m * m := by grind
    have y1 := h (m * X / (ρ * a - m * m))
    have rp : 0 < ρ := by
      have e1 := rsq m
      have e2 : 0 < ρ * a := by grind
      have : ρ = ρ * a * a⁻¹ := by grind
      rw [this]
      exact Rat.mul_pos e2 (rinv_pos ha)
    -- the quadratic at its least point
    have k : ρ * (a * (m * X / (ρ * a - m * m) * (m * X / (ρ * a - m * m))) + F) - (m * (m * X / (ρ * a - m * m)) + X) * (m * (m * X / (ρ * a - m * m)) + X) = (ρ * F - X * X) - m * X * (m * X) / (ρ * a - m * m) := by
      generalize hq : ρ * a - m * m = q at *
      have : ρ * a = q + m * m := by grind
      have q0 : q ≠ 0 := by grind
      have e1 : ρ * (a * (m * X / q * (m * X / q)) + F) = (ρ * a) * (m * X / q * (m * X / q)) + ρ * F := by grind
      rw [e1, this]
      grind
    have k2 : 0 ≤ (ρ * F - X * X) - m * X * (m * X) / (ρ * a - m * m) := by grind
    have k3 := Rat.mul_nonneg (a := ρ * a - m * m) (by grind) k2
    have k4 : (ρ * a - m * m) * ((ρ * F - X * X) - m * X * (m * X) / (ρ * a - m * m)) = ρ * (ρ * a * F - m * m * F - a * (X * X)) := by
      generalize hq : ρ * a - m * m = q at *
      have : ρ * a = q + m * m := by grind
      have q0 : q ≠ 0 := by grind
      have e1 : q * ((ρ * F - X * X) - m * X * (m * X) / q) = q * (ρ * F - X * X) - m * X * (m * X) := by grind
      rw [e1]
      grind
    rw [k4] at k3
    have k5 : 0 ≤ ρ * a * F - m * m * F - a * (X * X) := rmulc rp (by grind)
    have k6 : a * (X * X) ≤ a * ((ρ - m * m / a) * F) := by
      have : a * ((ρ - m * m / a) * F) = ρ * a * F - m * m * F := by grind
      rw [this]
      grind
    exact rmulc ha k6
theorem hkU_le {n : Nat} : ∀ {G : Nat → Nat → Rat} {t ρ : Rat} {l : Nat → Rat}, hky G → hkP n G → 0 < t → 0 ≤ ρ → (∀ z : Nat → Rat, hR n (fun i => l i * z i) * hR n (fun i => l i * z i) ≤ ρ * hkQ n G z) → hkD n (hkA G t l) ≤ (1 + t * ρ) * hkD n G := by
  induction n with
  | zero =>
    intro G t ρ l _ _ ht hr _
    have := Rat.mul_nonneg (a := t) (by grind) hr
    show (1 : Rat) ≤ (1 + t * ρ) * 1
    grind
  | succ n ih =>
    intro G t ρ l hs h ht hr hz
    have h0 := h.1
    have p := Rat.mul_nonneg (a := t) (by grind) (rsq (l 0))
    have hk : 0 < G 0 0 + t * l 0 * l 0 := by grind
    have ht2 : 0 < t * G 0 0 / (G 0 0 + t * l 0 * l 0) := by
      have : t * G 0 0 / (G 0 0 + t * l 0 * l 0) = t * G 0 0 * (G 0 0 + t * l 0 * l 0)⁻¹ := by grind
      rw [this]
      exact Rat.mul_pos (Rat.mul_pos ht h0) (rinv_pos hk)
    have q : ∀ μ : Nat → Rat, 0 ≤ ρ - l 0 * l 0 / G 0 0 ∧ hR n (fun i => (l (i + 1) - l 0 * G 0 (i + 1) / G 0 0) * μ i) * hR n (fun i => (l (i + 1) - l 0 * G 0 (i + 1) / G 0 0) * μ i) ≤ (ρ - l 0 * l 0 / G 0 0) * hkQ n (hkS G) μ := fun μ => by
      refine hk_quad h0 (hkQ_pos hs.s h.2 μ) (fun y => ?_)
      have e := hz (fun j => if j = 0 then y - hR n (fun j => G 0 (j + 1) * μ j) / G 0 0 else μ (j - 1))
      rw [hkQ_succ hs (by grind)] at e
      have t1 : (fun j => G 0 (j + 1) * (if j + 1 = 0 then y - hR n (fun j => G 0 (j + 1) * μ j) / G 0 0 else μ (j + 1 - 1))) = fun j => G 0 (j + 1) * μ j := funext fun j => by
        rw [if_neg (by omega)]; rfl
      have t2 : (fun i => if i + 1 = 0 then y - hR n (fun j => G 0 (j + 1) * μ j) / G 0 0 else μ (i + 1 - 1)) = μ := funext fun i => by
        rw [if_neg (by omega)]; rfl
      have t3 : hR (n + 1) (fun i => l i * (if i = 0 then y - hR n (fun j => G 0 (j + 1) * μ j) / G 0 0 else μ (i - 1))) = l 0 * y + hR n (fun i => (l (i + 1) - l 0 * G 0 (i + 1) / G 0 0) * μ i) := by
        have e1 : hR (n + 1) (fun i => l i * (if i = 0 then y - hR n (fun j => G 0 (j + 1) * μ j) / G 0 0 else μ (i - 1))) = l 0 * (y - hR n (fun j => G 0 (j + 1) * μ j) / G 0 0) + hR n (fun i => l (i + 1) * μ i) := by
          show l 0 * (if 0 = 0 then y - hR n (fun j => G 0 (j + 1) * μ j) / G 0 0 else μ (0 - 1)) + hR n (fun i => l (i + 1) * (if i + 1 = 0 then y - hR n (fun j => G 0 (j + 1) * μ j) / G 0 0 else μ (i + 1 - 1))) = _
          rw [if_pos rfl]
          rw [hR_congr (f := fun i => l (i + 1) * (if i + 1 = 0 then y - hR n (fun j => G 0 (j + 1) * μ j) / G 0 0 else μ (i + 1 - 1))) (g := fun i => l (i + 1) * μ i) (fun i _ => by rw [if_neg (by omega)]; rfl)]
        have e2 : hR n (fun i => (l (i + 1) - l 0 * G 0 (i + 1) / G 0 0) * μ i) = hR n (fun i => l (i + 1) * μ i) + (-(l 0 / G 0 0)) * hR n (fun j => G 0 (j + 1) * μ j) := by
          rw [← hR_mul, ← hR_add]
          exact hR_congr (fun i _ => by grind)
        rw [e1, e2]
        generalize hR n (fun j => G 0 (j + 1) * μ j) = L at *
        generalize hR n (fun i => l (i + 1) * μ i) = W at *
        grind
      rw [t1, t2, t3, if_pos rfl] at e
      have t4 : y - hR n (fun j => G 0 (j + 1) * μ j) / G 0 0 + hR n (fun j => G 0 (j + 1) * μ j) / G 0 0 = y := by grind
      rw [t4] at e
      exact e
    have i1 := ih (t := t * G 0 0 / (G 0 0 + t * l 0 * l 0)) (ρ := ρ - l 0 * l 0 / G 0 0) (l := fun i => l (i + 1) - l 0 * G 0 (i + 1) / G 0 0) hs.s h.2 ht2 (q (fun _ => 0)).1 (fun μ => (q μ).2)
    rw [← hkA_S hs h0 ht l] at i1
    have e3 := Rat.mul_nonneg (a := G 0 0 + t * l 0 * l 0) (b := (1 + t * G 0 0 / (G 0 0 + t * l 0 * l 0) * (ρ - l 0 * l 0 / G 0 0)) * hkD n (hkS G) - hkD n (hkS (hkA G t l))) (by grind) (by grind)
    show (G 0 0 + t * l 0 * l 0) * hkD n (hkS (hkA G t l)) ≤ (1 + t * ρ) * (G 0 0 * hkD n (hkS G))
    have e4 : (G 0 0 + t * l 0 * l 0) * ((1 + t * G 0 0 / (G 0 0 + t * l 0 * l 0) * (ρ - l 0 * l 0 / G 0 0)) * hkD n (hkS G)) = (1 + t * ρ) * (G 0 0 * hkD n (hkS G)) := by
      have e5 : (G 0 0 + t * l 0 * l 0) * (1 + t * G 0 0 / (G 0 0 + t * l 0 * l 0) * (ρ - l 0 * l 0 / G 0 0)) = (1 + t * ρ) * G 0 0 := by
        have k0 : G 0 0 + t * l 0 * l 0 ≠ 0 := by grind
        have a0 : G 0 0 ≠ 0 := by grind
        have e6 : (G 0 0 + t * l 0 * l 0) * (1 + t * G 0 0 / (G 0 0 + t * l 0 * l 0) * (ρ - l 0 * l 0 / G 0 0)) = (G 0 0 + t * l 0 * l 0) + t * G 0 0 * (ρ - l 0 * l 0 / G 0 0) := by
          generalize G 0 0 + t * l 0 * l 0 = k at *
          generalize ρ - l 0 * l 0 / G 0 0 = r at *
          clear e3 i1 q hz
          grind
        rw [e6]
        clear e3 i1 q hz e6
        grind
      have e7 : (G 0 0 + t * l 0 * l 0) * ((1 + t * G 0 0 / (G 0 0 + t * l 0 * l 0) * (ρ - l 0 * l 0 / G 0 0)) * hkD n (hkS G)) = ((G 0 0 + t * l 0 * l 0) * (1 + t * G 0 0 / (G 0 0 + t * l 0 * l 0) * (ρ - l 0 * l 0 / G 0 0))) * hkD n (hkS G) := by
        generalize (1 + t * G 0 0 / (G 0 0 + t * l 0 * l 0) * (ρ - l 0 * l 0 / G 0 0)) = r
        grind
      rw [e7, e5]
      grind
    rw [← e4]
    generalize (1 + t * G 0 0 / (G 0 0 + t * l 0 * l 0) * (ρ - l 0 * l 0 / G 0 0)) * hkD n (hkS G) = A at *
    generalize hkD n (hkS (hkA G t l)) = B at *
    generalize G 0 0 + t * l 0 * l 0 = k at *
    grind
