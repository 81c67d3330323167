/-! quadratic forms over Rat: pivots, their product, Hadamard -/
theorem rsq (x : Rat) : 0 ≤ x * x := by
  rcases Rat.le_total (a := 0) (b := x) with h | h
  · exact Rat.mul_nonneg h h
  · have : 0 ≤ (-x) * (-x) := Rat.mul_nonneg (by grind) (by grind)
    grind
theorem rmul_le {a b c d : Rat} (h1 : a ≤ b) (h2 : c ≤ d) (h3 : 0 ≤ c) (h4 : 0 ≤ b) : a * c ≤ b * d := by
  have e1 : 0 ≤ (b - a) * c := Rat.mul_nonneg (by grind) h3
  have e2 : 0 ≤ b * (d - c) := Rat.mul_nonneg h4 (by grind)
  grind
theorem rdivsq {a x : Rat} (h : 0 < a) : 0 ≤ x * x / a := by
  have e : x * x / a = a * ((x / a) * (x / a)) := by grind
  rw [e]
  exact Rat.mul_nonneg (by grind) (rsq _)
def hR : Nat → (Nat → Rat) → Rat
  | 0, _ => 0
  | n + 1, f => f 0 + hR n (fun i => f (i + 1))
theorem hR_congr {n : Nat} : ∀ {f g : Nat → Rat}, (∀ i, i < n → f i = g i) → hR n f = hR n g := by
  induction n with
  | zero => intro f g _; rfl
  | succ n ih =>
    intro f g h
    show f 0 + hR n _ = g 0 + hR n _
    rw [h 0 (by omega), ih (fun i hi => h (i + 1) (by omega))]
theorem hR_add {n : Nat} : ∀ (f g : Nat → Rat), hR n (fun i => f i + g i) = hR n f + hR n g := by
  induction n with
  | zero => intro f g; show (0 : Rat) = 0 + 0; grind
  | succ n ih =>
    intro f g
    show f 0 + g 0 + hR n _ = f 0 + hR n _ + (g 0 + hR n _)
    rw [ih (fun i => f (i + 1)) (fun i => g (i + 1))]
    grind
theorem hR_mul {n : Nat} : ∀ (k : Rat) (f : Nat → Rat), hR n (fun i => k * f i) = k * hR n f := by
  induction n with
  | zero => intro k f; show (0 : Rat) = k * 0; grind
  | succ n ih =>
    intro k f
    show k * f 0 + hR n _ = k * (f 0 + hR n _)
    rw [ih k (fun i => f (i + 1))]
    grind
theorem hR_zero {n : Nat} : hR n (fun _ => 0) = 0 := by
  induction n with
  | zero => rfl
  | succ n ih => show (0 : Rat) + hR n _ = 0; rw [ih]; grind
theorem hR_swap {n m : Nat} : ∀ (f : Nat → Nat → Rat), hR n (fun i => hR m (fun j => f i j)) = hR m (fun j => hR n (fun i => f i j)) := by
  induction n with
  | zero => intro f; show (0 : Rat) = hR m (fun _ => 0); rw [hR_zero]
  | succ n ih =>
    intro f
    show hR m (fun j => f 0 j) + hR n (fun i => hR m (fun j => f (i + 1) j)) = hR m (fun j => f 0 j + hR n (fun i => f (i + 1) j))
    rw [ih (fun i j => f (i + 1) j), ← hR_add]
/-- the last summand apart -/
theorem hR_last {n : Nat} : ∀ (f : Nat → Rat), hR (n + 1) f = hR n f + f n := by
  induction n with
  | zero => intro f; show f 0 + 0 = 0 + f 0; grind
  | succ n ih =>
    intro f
    show f 0 + hR (n + 1) (fun i => f (i + 1)) = f 0 + hR n (fun i => f (i + 1)) + f (n + 1)
    rw [ih (fun i => f (i + 1))]
    grind
def hkS (G : Nat → Nat → Rat) : Nat → Nat → Rat := fun i j => G (i + 1) (j + 1) - G (i + 1) 0 * G 0 (j + 1) / G 0 0
def hkD : Nat → (Nat → Nat → Rat) → Rat
  | 0, _ => 1
  | n + 1, G => G 0 0 * hkD n (hkS G)
def hkP : Nat → (Nat → Nat → Rat) → Prop
  | 0, _ => True
  | n + 1, G => 0 < G 0 0 ∧ hkP n (hkS G)
def hkL : Nat → (Nat → Nat → Rat) → Rat
  | 0, G => G 0 0
  | n + 1, G => hkL n (hkS G)
def hkQ (n : Nat) (G : Nat → Nat → Rat) (z : Nat → Rat) : Rat := hR n (fun i => hR n (fun j => G i j * z i * z j))
def hky (G : Nat → Nat → Rat) : Prop := ∀ i j, G i j = G j i
theorem hky.s {G : Nat → Nat → Rat} (h : hky G) : hky (hkS G) := fun i j => by
  unfold hkS
  rw [h (i + 1) (j + 1), h (i + 1) 0, h 0 (j + 1)]
  grind
theorem hkS_congr {n : Nat} {G H : Nat → Nat → Rat} (h : ∀ i j, i < n + 1 → j < n + 1 → G i j = H i j) : ∀ i j, i < n → j < n → hkS G i j = hkS H i j := fun i j hi hj => by
  unfold hkS
  rw [h (i + 1) (j + 1) (by omega) (by omega), h (i + 1) 0 (by omega) (by omega), h 0 (j + 1) (by omega) (by omega), h 0 0 (by omega) (by omega)]
theorem hkD_congr {n : Nat} : ∀ {G H : Nat → Nat → Rat}, (∀ i j, i < n → j < n → G i j = H i j) → hkD n G = hkD n H := by
  induction n with
  | zero => intro G H _; rfl
  | succ n ih =>
    intro G H h
    show G 0 0 * hkD n (hkS G) = H 0 0 * hkD n (hkS H)
    rw [h 0 0 (by omega) (by omega), ih (hkS_congr h)]
theorem hkP_congr {n : Nat} : ∀ {G H : Nat → Nat → Rat}, (∀ i j, i < n → j < n → G i j = H i j) → hkP n G → hkP n H := by
  induction n with
  | zero => intro G H _ _; trivial
  | succ n ih =>
    intro G H h g
    exact ⟨by rw [← h 0 0 (by omega) (by omega)]; exact g.1, ih (hkS_congr h) g.2⟩
theorem hkD_pos {n : Nat} : ∀ {G : Nat → Nat → Rat}, hkP n G → 0 < hkD n G := by
  induction n with
  | zero => intro G _; show (0 : Rat) < 1; decide
  | succ n ih => intro G h; exact Rat.mul_pos h.1 (ih h.2)
theorem hkD_last {n : Nat} : ∀ {G : Nat → Nat → Rat}, hkD (n + 1) G = hkD n G * hkL n G := by
  induction n with
  | zero => intro G; show G 0 0 * 1 = 1 * G 0 0; grind
  | succ n ih =>
    intro G
    show G 0 0 * hkD (n + 1) (hkS G) = G 0 0 * hkD n (hkS G) * hkL n (hkS G)
    rw [ih]
    grind
theorem hkQ_succ {n : Nat} {G : Nat → Nat → Rat} (hs : hky G) (h0 : G 0 0 ≠ 0) (z : Nat → Rat) :
    hkQ (n + 1) G z = G 0 0 * ((z 0 + hR n (fun j => G 0 (j + 1) * z (j + 1)) / G 0 0) * (z 0 + hR n (fun j => G 0 (j + 1) * z (j + 1)) / G 0 0)) + hkQ n (hkS G) (fun i => z (i + 1)) := by
  have e1 : hkQ (n + 1) G z = G 0 0 * z 0 * z 0 + hR n (fun j => G 0 (j + 1) * z 0 * z (j + 1)) + hR n (fun i => G (i + 1) 0 * z (i + 1) * z 0 + hR n (fun j => G (i + 1) (j + 1) * z (i + 1) * z (j + 1))) := rfl
  have e2 : hR n (fun j => G 0 (j + 1) * z 0 * z (j + 1)) = z 0 * hR n (fun j => G 0 (j + 1) * z (j + 1)) := by
    rw [← hR_mul]
    exact hR_congr (fun j _ => by grind)
  have e3 : hR n (fun i => G (i + 1) 0 * z (i + 1) * z 0) = z 0 * hR n (fun j => G 0 (j + 1) * z (j + 1)) := by
    rw [← hR_mul]
    exact hR_congr (fun j _ => by rw [hs (j + 1) 0]; grind)
  have e4 : hkQ n (hkS G) (fun i => z (i + 1)) = hR n (fun i => hR n (fun j => G (i + 1) (j + 1) * z (i + 1) * z (j + 1))) + (-(1 / G 0 0)) * (hR n (fun j => G 0 (j + 1) * z (j + 1)) * hR n (fun j => G 0 (j + 1) * z (j + 1))) := by
    have : ∀ i, hR n (fun j => hkS G i j * z (i + 1) * z (j + 1)) = hR n (fun j => G (i + 1) (j + 1) * z (i + 1) * z (j + 1)) + (-(1 / G 0 0) * hR n (fun j => G 0 (j + 1) * z (j + 1))) * (G 0 (i + 1) * z (i + 1)) := fun i => by
      have t : hR n (fun j => hkS G i j * z (i + 1) * z (j + 1)) = hR n (fun j => G (i + 1) (j + 1) * z (i + 1) * z (j + 1) + (-(1 / G 0 0) * (G 0 (i + 1) * z (i + 1))) * (G 0 (j + 1) * z (j + 1))) := hR_congr (fun j _ => by
        unfold hkS
        rw [hs (i + 1) 0]
        grind)
      rw [t, hR_add, hR_mul]
      grind
    unfold hkQ
    rw [hR_congr (fun i _ => this i), hR_add, hR_mul]
    grind
  rw [e1, e4, hR_add, e2, e3]
  generalize hR n (fun j => G 0 (j + 1) * z (j + 1)) = L
  grind
