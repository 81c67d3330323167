/-! positive forms, their least values, Hadamard -/
theorem hR_0 {n : Nat} {f : Nat → Rat} (h : ∀ i, i < n → f i = 0) : hR n f = 0 := by
  rw [hR_congr h, hR_zero]
theorem hkQ_pos {n : Nat} : ∀ {G : Nat → Nat → Rat}, hky G → hkP n G → ∀ z : Nat → Rat, 0 ≤ hkQ n G z := by
  induction n with
  | zero => intro G _ _ z; show (0 : Rat) ≤ 0; grind
  | succ n ih =>
    intro G hs h z
    have h0 := h.1
    rw [hkQ_succ hs (by grind)]
    have e1 := ih hs.s h.2 (fun i => z (i + 1))
    have e2 := Rat.mul_nonneg (a := G 0 0) (by grind) (rsq (z 0 + hR n (fun j => G 0 (j + 1) * z (j + 1)) / G 0 0))
    grind
/-- a form that is above 0 off 0 has pivots above 0 -/
theorem hkP_of {n : Nat} : ∀ {G : Nat → Nat → Rat}, hky G → (∀ z : Nat → Rat, (∃ i, i < n ∧ z i ≠ 0) → 0 < hkQ n G z) → hkP n G := by
  induction n with
  | zero => intro G _ _; trivial
  | succ n ih =>
    intro G hs h
    have h0 : 0 < G 0 0 := by
      have e := h (fun i => if i = 0 then 1 else 0) ⟨0, by omega, by show (1 : Rat) ≠ 0; decide⟩
      have e2 : hkQ (n + 1) G (fun i => if i = 0 then 1 else 0) = G 0 0 * 1 * 1 + hR n (fun j => G 0 (j + 1) * 1 * (if j + 1 = 0 then 1 else 0)) + hR n (fun i => G (i + 1) 0 * (if i + 1 = 0 then 1 else 0) * 1 + hR n (fun j => G (i + 1) (j + 1) * (if i + 1 = 0 then 1 else 0) * (if j + 1 = 0 then 1 else 0))) := rfl
      have e3 : hR n (fun j => G 0 (j + 1) * 1 * (if j + 1 = 0 then 1 else 0)) = 0 := hR_0 (fun j _ => by rw [if_neg (by omega)]; grind)
      have e4 : hR n (fun i => G (i + 1) 0 * (if i + 1 = 0 then 1 else 0) * 1 + hR n (fun j => G (i + 1) (j + 1) * (if i + 1 = 0 then 1 else 0) * (if j + 1 = 0 then 1 else 0))) = 0 := hR_0 (fun i _ => by
        have : hR n (fun j => G (i + 1) (j + 1) * (if i + 1 = 0 then 1 else 0) * (if j + 1 = 0 then 1 else 0)) = 0 := hR_0 (fun j _ => by
          have : ¬ j + 1 = 0 := by omega
          rw [if_neg this]; grind)
        have t : ¬ i + 1 = 0 := by omega
        rw [this, if_neg t]
        grind)
      rw [e2, e3, e4] at e
      grind
    refine ⟨h0, ih hs.s (fun z hz => ?_)⟩
    obtain ⟨i, hi, hi2⟩ := hz
    have e := h (fun j => if j = 0 then -(hR n (fun j => G 0 (j + 1) * z j) / G 0 0) else z (j - 1)) ⟨i + 1, by omega, by show (if i + 1 = 0 then _ else z (i + 1 - 1)) ≠ 0; rw [if_neg (by omega)]; exact hi2⟩
    rw [hkQ_succ hs (by grind)] at e
    have t1 : (fun j => G 0 (j + 1) * (if j + 1 = 0 then -(hR n (fun j => G 0 (j + 1) * z j) / G 0 0) else z (j + 1 - 1))) = fun j => G 0 (j + 1) * z j := funext fun j => by
      rw [if_neg (by omega)]; rfl
    have t2 : (fun i => if i + 1 = 0 then -(hR n (fun j => G 0 (j + 1) * z j) / G 0 0) else z (i + 1 - 1)) = z := funext fun i => by
      rw [if_neg (by omega)]; rfl
    rw [t1, t2, if_pos rfl] at e
    grind
/-- the last pivot is the least value at vectors whose last place is 1 -/
theorem hkL_le {n : Nat} : ∀ {G : Nat → Nat → Rat}, hky G → hkP (n + 1) G → ∀ z : Nat → Rat, hkL n G * (z n * z n) ≤ hkQ (n + 1) G z := by
  induction n with
  | zero =>
    intro G hs h z
    show G 0 0 * (z 0 * z 0) ≤ G 0 0 * z 0 * z 0 + 0 + 0
    grind
  | succ n ih =>
    intro G hs h z
    have h0 := h.1
    rw [hkQ_succ hs (by grind)]
    have e1 := ih hs.s h.2 (fun i => z (i + 1))
    have e2 := Rat.mul_nonneg (a := G 0 0) (by grind) (rsq (z 0 + hR (n + 1) (fun j => G 0 (j + 1) * z (j + 1)) / G 0 0))
    show hkL n (hkS G) * (z (n + 1) * z (n + 1)) ≤ _
    grind
theorem hkL_ex {n : Nat} : ∀ {G : Nat → Nat → Rat}, hky G → hkP (n + 1) G → ∃ z : Nat → Rat, z n = 1 ∧ hkQ (n + 1) G z = hkL n G := by
  induction n with
  | zero =>
    intro G hs h
    refine ⟨fun _ => 1, rfl, ?_⟩
    show G 0 0 * 1 * 1 + 0 + 0 = G 0 0
    grind
  | succ n ih =>
    intro G hs h
    have h0 := h.1
    obtain ⟨z, z1, z2⟩ := ih hs.s h.2
    refine ⟨fun j => if j = 0 then -(hR (n + 1) (fun j => G 0 (j + 1) * z j) / G 0 0) else z (j - 1), by show (if n + 1 = 0 then _ else z (n + 1 - 1)) = 1; rw [if_neg (by omega)]; exact z1, ?_⟩
    rw [hkQ_succ hs (by grind)]
    have t1 : (fun j => G 0 (j + 1) * (if j + 1 = 0 then -(hR (n + 1) (fun j => G 0 (j + 1) * z j) / G 0 0) else z (j + 1 - 1))) = fun j => G 0 (j + 1) * z j := funext fun j => by
      rw [if_neg (by omega)]; rfl
    have t2 : (fun i => if i + 1 = 0 then -(hR (n + 1) (fun j => G 0 (j + 1) * z j) / G 0 0) else z (i + 1 - 1)) = z := funext fun i => by
      rw [if_neg (by omega)]; rfl
    rw [t1, t2, if_pos rfl, z2]
    show _ = hkL n (hkS G)
    grind
/-- Hadamard -/
theorem hkD_le {n : Nat} : ∀ {G : Nat → Nat → Rat} {M : Rat}, hky G → hkP n G → (∀ i, i < n → G i i ≤ M) → hkD n G ≤ M ^ n := by
  induction n with
  | zero => intro G M _ _ _; show (1 : Rat) ≤ M ^ 0; grind
  | succ n ih =>
    intro G M hs h hd
    have h0 := h.1
    have e1 := ih hs.s h.2 (M := M) (fun i hi => by
      have a := hd (i + 1) (by omega)
      have b := rdivsq (x := G 0 (i + 1)) h0
      show G (i + 1) (i + 1) - G (i + 1) 0 * G 0 (i + 1) / G 0 0 ≤ M
      rw [hs (i + 1) 0]
      grind)
    have e2 := hkD_pos h.2
    have e3 := hd 0 (by omega)
    have e4 := rmul_le e3 e1 (by grind) (by grind)
    show G 0 0 * hkD n (hkS G) ≤ M ^ (n + 1)
    have e5 : M ^ (n + 1) = M * M ^ n := by grind
    rw [e5]
    exact e4
/-- a form and the square of a linear form -/
def hkA (G : Nat → Nat → Rat) (t : Rat) (l : Nat → Rat) : Nat → Nat → Rat := fun i j => G i j + t * l i * l j
theorem hkA_sy {G : Nat → Nat → Rat} (hs : hky G) (t : Rat) (l : Nat → Rat) : hky (hkA G t l) := fun i j => by
  unfold hkA
  rw [hs i j]
  grind
theorem hkA_S {G : Nat → Nat → Rat} (hs : hky G) (h0 : 0 < G 0 0) {t : Rat} (ht : 0 < t) (l : Nat → Rat) : hkS (hkA G t l) = hkA (hkS G) (t * G 0 0 / (G 0 0 + t * l 0 * l 0)) (fun i => l (i + 1) - l 0 * G 0 (i + 1) / G 0 0) := by
  funext i j
  show G (i + 1) (j + 1) + t * l (i + 1) * l (j + 1) - (G (i + 1) 0 + t * l (i + 1) * l 0) * (G 0 (j + 1) + t * l 0 * l (j + 1)) / (G 0 0 + t * l 0 * l 0) = G (i + 1) (j + 1) - G (i + 1) 0 * G 0 (j + 1) / G 0 0 + t * G 0 0 / (G 0 0 + t * l 0 * l 0) * (l (i + 1) - l 0 * G 0 (i + 1) / G 0 0) * (l (j + 1) - l 0 * G 0 (j + 1) / G 0 0)
  have p := Rat.mul_nonneg (a := t) (by grind) (rsq (l 0))
  have p2 : G 0 0 + t * l 0 * l 0 ≠ 0 := by grind
  have p3 : G 0 0 ≠ 0 := by grind
  rw [hs (i + 1) 0]
  generalize G 0 0 = a at *
  generalize l 0 = m at *
  generalize G 0 (i + 1) = u
  generalize G 0 (j + 1) = v
  generalize l (i + 1) = x
  generalize l (j + 1) = y
  generalize e : a + t * m * m = k at *
  have ek : t * m * m = k - a := by grind
  have c1 : (u + t * x * m) * (v + t * m * y) / k = (u * v + t * m * (u * y + x * v) + t * (k - a) * x * y) / k := by
    have : (u + t * x * m) * (v + t * m * y) = u * v + t * m * (u * y + x * v) + t * (k - a) * x * y := by grind
    rw [this]
  have c2 : t * a / k * (x - m * u / a) * (y - m * v / a) = (t * a * x * y - t * m * (u * y + x * v) + (k - a) * u * v / a) / k := by
    have : t * a * (x - m * u / a) * (y - m * v / a) = t * a * x * y - t * m * (u * y + x * v) + (k - a) * u * v / a := by
      rw [← ek]; grind
    rw [← this]; grind
  rw [c1, c2]
  grind
theorem rinv_pos {a : Rat} (h : 0 < a) : 0 < a⁻¹ := by
  have e1 : a * a⁻¹ = 1 := by grind
  rcases Rat.le_total (a := 0) (b := a⁻¹) with g | g
  · have : a⁻¹ ≠ 0 := fun z => by rw [z] at e1; grind
    grind
  · have : 0 ≤ a * (-a⁻¹) := Rat.mul_nonneg (by grind) (by grind)
    grind
theorem rsq_pos {x : Rat} (h : x ≠ 0) : 0 < x * x := by
  have e := rsq x
  have : x * x ≠ 0 := fun z => by
    have : x = 0 := by
      have e1 : x * x * x⁻¹ = x := by grind
      rw [z] at e1
      grind
    exact h this
  grind
theorem hk_cs {t a m y X P A F : Rat} (ht : 0 < t) (ha : 0 < a) (hP : 0 < P) (hA : 0 ≤ A) (hF : 0 ≤ F) (k3 : t * a / (a + t * m * m) * P * (X * X) ≤ A * F) :
    t * (a * P) * ((m * y + X) * (m * y + X)) ≤ ((a + t * m * m) * (P + A) - a * P) * (a * (y * y) + F) := by
  have p := Rat.mul_nonneg (a := t) (by grind) (rsq m)
  have hk : 0 < a + t * m * m := by grind
  have b0 : 0 ≤ (a + t * m * m) * (A * F) - t * a * P * (X * X) := by
    have e := Rat.mul_nonneg (a := a + t * m * m) (b := A * F - t * a / (a + t * m * m) * P * (X * X)) (by grind) (by grind)
    have e2 : (a + t * m * m) * (A * F - t * a / (a + t * m * m) * P * (X * X)) = (a + t * m * m) * (A * F) - t * a * P * (X * X) := by
      generalize a + t * m * m = k at *
      grind
    rw [e2] at e
    exact e
  have hta := Rat.mul_pos (Rat.mul_pos ht ha) hP
  by_cases z : A = 0
  · subst z
    have x0 : X = 0 := by
      rcases Classical.em (X = 0) with g | g
      · exact g
      · exfalso
        have := Rat.mul_pos hta (rsq_pos g)
        grind
    subst x0
    have e := Rat.mul_nonneg (a := t * m * m * P) (b := F) (Rat.mul_nonneg (by grind) (by grind)) hF
    grind
  · have hkA : 0 < (a + t * m * m) * A := Rat.mul_pos hk (by grind)
    have e1 := Rat.mul_nonneg (a := a) (by grind) (rsq ((a + t * m * m) * A * y - t * m * P * X))
    have e2 := Rat.mul_nonneg (a := (a + t * m * m) * (A * F) - t * a * P * (X * X)) (b := (a + t * m * m) * A + t * m * m * P) b0 (by
      have := Rat.mul_nonneg (a := t * m * m) (b := P) (by grind) (by grind)
      grind)
    have id : (a + t * m * m) * A * (((a + t * m * m) * (P + A) - a * P) * (a * (y * y) + F) - t * (a * P) * ((m * y + X) * (m * y + X))) = a * (((a + t * m * m) * A * y - t * m * P * X) * ((a + t * m * m) * A * y - t * m * P * X)) + ((a + t * m * m) * (A * F) - t * a * P * (X * X)) * ((a + t * m * m) * A + t * m * m * P) := by grind
    rcases Rat.le_total (a := t * (a * P) * ((m * y + X) * (m * y + X))) (b := ((a + t * m * m) * (P + A) - a * P) * (a * (y * y) + F)) with g | g
    · exact g
    · have e3 := Rat.mul_nonneg (a := (a + t * m * m) * A) (b := t * (a * P) * ((m * y + X) * (m * y + X)) - ((a + t * m * m) * (P + A) - a * P) * (a * (y * y) + F)) (by grind) (by grind)
      have e4 : (a + t * m * m) * A * (((a + t * m * m) * (P + A) - a * P) * (a * (y * y) + F) - t * (a * P) * ((m * y + X) * (m * y + X))) = 0 := by grind
      have e5 : ((a + t * m * m) * (P + A) - a * P) * (a * (y * y) + F) - t * (a * P) * ((m * y + X) * (m * y + X)) = 0 := by
        generalize ((a + t * m * m) * (P + A) - a * P) * (a * (y * y) + F) - t * (a * P) * ((m * y + X) * (m * y + X)) = U at *
        generalize (a + t * m * m) * A = V at *
        have : U = V⁻¹ * (V * U) := by grind
        rw [this, e4]
        grind
      grind
theorem hkH {n : Nat} : ∀ {G : Nat → Nat → Rat} {t : Rat} {l : Nat → Rat}, hky G → hkP n G → 0 < t → hkP n (hkA G t l) ∧ hkD n G ≤ hkD n (hkA G t l) ∧
    ∀ z : Nat → Rat, t * hkD n G * (hR n (fun i => l i * z i) * hR n (fun i => l i * z i)) ≤ (hkD n (hkA G t l) - hkD n G) * hkQ n G z := by
  induction n with
  | zero =>
    intro G t l _ _ _
    refine ⟨trivial, by show (1 : Rat) ≤ 1; grind, fun z => ?_⟩
    show t * 1 * (0 * 0) ≤ ((1 : Rat) - 1) * 0
    grind
  | succ n ih =>
    intro G t l hs h ht
    have h0 := h.1
    have p := Rat.mul_nonneg (a := t) (by grind) (rsq (l 0))
    have hk : 0 < G 0 0 + t * l 0 * l 0 := by grind
    have ht2 : 0 < t * G 0 0 / (G 0 0 + t * l 0 * l 0) := by
      have : t * G 0 0 / (G 0 0 + t * l 0 * l 0) = t * G 0 0 * (G 0 0 + t * l 0 * l 0)⁻¹ := by grind
      rw [this]
      exact Rat.mul_pos (Rat.mul_pos ht h0) (rinv_pos hk)
    obtain ⟨i1, i2, i3⟩ := ih (t := t * G 0 0 / (G 0 0 + t * l 0 * l 0)) (l := fun i => l (i + 1) - l 0 * G 0 (i + 1) / G 0 0) hs.s h.2 ht2
    rw [← hkA_S hs h0 ht l] at i1 i2 i3
    have pd := hkD_pos h.2
    refine ⟨⟨hk, i1⟩, ?_, fun z => ?_⟩
    · show G 0 0 * hkD n (hkS G) ≤ (G 0 0 + t * l 0 * l 0) * hkD n (hkS (hkA G t l))
      exact rmul_le (by grind) i2 (by grind) (by grind)
    · have k3 := i3 (fun i => z (i + 1))
      rw [hkQ_succ hs (by grind)]
      have eX : hR n (fun i => (l (i + 1) - l 0 * G 0 (i + 1) / G 0 0) * z (i + 1)) = hR n (fun i => l (i + 1) * z (i + 1)) + (-(l 0 / G 0 0)) * hR n (fun j => G 0 (j + 1) * z (j + 1)) := by
        rw [← hR_mul, ← hR_add]
        exact hR_congr (fun i _ => by grind)
      have eL : hR (n + 1) (fun i => l i * z i) = l 0 * z 0 + hR n (fun i => l (i + 1) * z (i + 1)) := rfl
      have eD : hkD (n + 1) G = G 0 0 * hkD n (hkS G) := rfl
      have eA : hkD (n + 1) (hkA G t l) = (G 0 0 + t * l 0 * l 0) * hkD n (hkS (hkA G t l)) := rfl
      have eF := hkQ_pos hs.s h.2 (fun i => z (i + 1))
      rw [eL, eD, eA]
      rw [eX] at k3
      generalize hR n (fun i => l (i + 1) * z (i + 1)) = W at *
      generalize hR n (fun j => G 0 (j + 1) * z (j + 1)) = L at *
      generalize hkQ n (hkS G) (fun i => z (i + 1)) = F at *
      generalize hkD n (hkS (hkA G t l)) = P' at *
      generalize hkD n (hkS G) = P at *
      generalize G 0 0 = a at *
      generalize l 0 = m at *
      generalize z 0 = q at *
      have k4 : t * a / (a + t * m * m) * P * ((W + -(m / a) * L) * (W + -(m / a) * L)) ≤ (P' - P) * F := k3
      have e := hk_cs (y := q + L / a) ht h0 pd (by grind) eF k4
      have c1 : m * (q + L / a) + (W + -(m / a) * L) = m * q + W := by grind
      have c2 : P + (P' - P) = P' := by grind
      rw [c1, c2] at e
      exact e
