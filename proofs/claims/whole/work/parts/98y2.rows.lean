/-! two rows changed for two others: the product of the pivots stays -/
def hkT (p : Nat) (α β γ ε : Rat) (f : Nat → Rat) : Nat → Rat := fun i => if i = p then α * f p + β * f (p + 1) else if i = p + 1 then γ * f p + ε * f (p + 1) else f i
def hkC (p : Nat) (α β γ ε : Rat) (G : Nat → Nat → Rat) : Nat → Nat → Rat := fun i j => hkT p α β γ ε (fun i' => hkT p α β γ ε (G i') j) i
theorem hkT_s (p : Nat) (α β γ ε : Rat) (f : Nat → Rat) (i : Nat) : hkT (p + 1) α β γ ε f (i + 1) = hkT p α β γ ε (fun i => f (i + 1)) i := by
  unfold hkT
  by_cases h : i = p
  · rw [if_pos h, if_pos (by omega)]
  · rw [if_neg h, if_neg (by omega)]
    by_cases g : i = p + 1
    · rw [if_pos g, if_pos (by omega)]
    · rw [if_neg g, if_neg (by omega)]
theorem hkT_0 (p : Nat) (α β γ ε : Rat) (f : Nat → Rat) : hkT (p + 1) α β γ ε f 0 = f 0 := by
  unfold hkT
  rw [if_neg (by omega), if_neg (by omega)]
theorem hkT_lin (p : Nat) (α β γ ε k : Rat) (f g : Nat → Rat) (i : Nat) : hkT p α β γ ε (fun i => f i - k * g i) i = hkT p α β γ ε f i - k * hkT p α β γ ε g i := by
  unfold hkT
  by_cases h : i = p
  · rw [if_pos h, if_pos h, if_pos h]; grind
  · rw [if_neg h, if_neg h, if_neg h]
    by_cases h : i = p + 1
    · rw [if_pos h, if_pos h, if_pos h]; grind
    · rw [if_neg h, if_neg h, if_neg h]
theorem hkT_mul (p : Nat) (α β γ ε k : Rat) (f : Nat → Rat) (i : Nat) : hkT p α β γ ε (fun i => k * f i) i = k * hkT p α β γ ε f i := by
  unfold hkT
  by_cases h : i = p
  · rw [if_pos h, if_pos h]; grind
  · rw [if_neg h, if_neg h]
    by_cases h : i = p + 1
    · rw [if_pos h, if_pos h]; grind
    · rw [if_neg h, if_neg h]
theorem hkC_S (p : Nat) (α β γ ε : Rat) (G : Nat → Nat → Rat) : hkS (hkC (p + 1) α β γ ε G) = hkC p α β γ ε (hkS G) := by
  funext i j
  show hkT (p + 1) α β γ ε (fun i' => hkT (p + 1) α β γ ε (G i') (j + 1)) (i + 1) - hkT (p + 1) α β γ ε (fun i' => hkT (p + 1) α β γ ε (G i') 0) (i + 1) * hkT (p + 1) α β γ ε (fun i' => hkT (p + 1) α β γ ε (G i') (j + 1)) 0 / hkT (p + 1) α β γ ε (fun i' => hkT (p + 1) α β γ ε (G i') 0) 0 = hkT p α β γ ε (fun i' => hkT p α β γ ε (hkS G i') j) i
  rw [hkT_s, hkT_s, hkT_0, hkT_0]
  have e1 : (fun i => hkT (p + 1) α β γ ε (G (i + 1)) (j + 1)) = fun i => hkT p α β γ ε (fun j => G (i + 1) (j + 1)) j := funext fun i => hkT_s ..
  have e2 : (fun i => hkT (p + 1) α β γ ε (G (i + 1)) 0) = fun i => G (i + 1) 0 := funext fun i => hkT_0 ..
  rw [e1, e2, hkT_s, hkT_0]
  have e3 : (fun i' => hkT p α β γ ε (hkS G i') j) = fun i' => hkT p α β γ ε (fun j => G (i' + 1) (j + 1)) j - (hkT p α β γ ε (fun j => G 0 (j + 1)) j / G 0 0) * G (i' + 1) 0 := funext fun i' => by
    have : hkS G i' = fun j => G (i' + 1) (j + 1) - (G (i' + 1) 0 / G 0 0) * G 0 (j + 1) := funext fun j => by
      show G (i' + 1) (j + 1) - G (i' + 1) 0 * G 0 (j + 1) / G 0 0 = _
      grind
    rw [this, hkT_lin]
    grind
  rw [e3, hkT_lin]
  grind
theorem hk_two {a b e u v w x : Rat} (ha : a ≠ 0) (he : e ≠ 0) : u * v / a + (w - u * b / a) * (x - v * b / a) / e = ((e + b * b / a) * u * v - b * (u * x + w * v) + a * w * x) / (a * e) := by
  have k : (u * v / a + (w - u * b / a) * (x - v * b / a) / e) * (a * e) = (e + b * b / a) * u * v - b * (u * x + w * v) + a * w * x := by grind
  rw [← k]
  have : a * e ≠ 0 := fun z => by
    have : e = a⁻¹ * (a * e) := by grind
    rw [z] at this
    grind
  generalize a * e = y at *
  generalize u * v / a + (w - u * b / a) * (x - v * b / a) / e = r at *
  grind
theorem hk_t2 {a b d : Rat} (ha : a ≠ 0) : a * (d - b * b / a) = a * d - b * b := by grind
/-- two steps at once -/
def hkS2 (G : Nat → Nat → Rat) : Nat → Nat → Rat := fun i j => G (i + 2) (j + 2) - (G 1 1 * G 0 (i + 2) * G 0 (j + 2) - G 0 1 * (G 0 (i + 2) * G 1 (j + 2) + G 1 (i + 2) * G 0 (j + 2)) + G 0 0 * G 1 (i + 2) * G 1 (j + 2)) / (G 0 0 * G 1 1 - G 0 1 * G 0 1)
theorem hkD_two {n : Nat} {G : Nat → Nat → Rat} (hs : hky G) (h : hkP (n + 2) G) : hkD (n + 2) G = (G 0 0 * G 1 1 - G 0 1 * G 0 1) * hkD n (hkS2 G) := by
  have h0 := h.1
  have h1 : 0 < G 1 1 - G 1 0 * G 0 1 / G 0 0 := h.2.1
  have e : hkS (hkS G) = hkS2 G := by
    funext i j
    show G (i + 2) (j + 2) - G (i + 2) 0 * G 0 (j + 2) / G 0 0 - (G (i + 2) 1 - G (i + 2) 0 * G 0 1 / G 0 0) * (G 1 (j + 2) - G 1 0 * G 0 (j + 2) / G 0 0) / (G 1 1 - G 1 0 * G 0 1 / G 0 0) = G (i + 2) (j + 2) - (G 1 1 * G 0 (i + 2) * G 0 (j + 2) - G 0 1 * (G 0 (i + 2) * G 1 (j + 2) + G 1 (i + 2) * G 0 (j + 2)) + G 0 0 * G 1 (i + 2) * G 1 (j + 2)) / (G 0 0 * G 1 1 - G 0 1 * G 0 1)
    rw [hs (i + 2) 0, hs (i + 2) 1, hs 1 0] at *
    have t := hk_two (a := G 0 0) (b := G 0 1) (e := G 1 1 - G 0 1 * G 0 1 / G 0 0) (u := G 0 (i + 2)) (v := G 0 (j + 2)) (w := G 1 (i + 2)) (x := G 1 (j + 2)) (by grind) (by grind)
    have t2 : G 0 0 * (G 1 1 - G 0 1 * G 0 1 / G 0 0) = G 0 0 * G 1 1 - G 0 1 * G 0 1 := hk_t2 (by grind)
    have t3 : G 1 1 - G 0 1 * G 0 1 / G 0 0 + G 0 1 * G 0 1 / G 0 0 = G 1 1 := by clear t t2; grind
    rw [t2, t3] at t
    rw [← t]
    have t4 : G 0 1 * G 0 (j + 2) / G 0 0 = G 0 (j + 2) * G 0 1 / G 0 0 := by clear t t2 t3; grind
    rw [t4]
    clear t t2 t3 t4
    grind
  show G 0 0 * ((G 1 1 - G 1 0 * G 0 1 / G 0 0) * hkD n (hkS (hkS G))) = _
  rw [e, hs 1 0, ← hk_t2 (a := G 0 0) (b := G 0 1) (d := G 1 1) (by grind)]
  clear e h1
  grind
theorem hkC_sy {p : Nat} {α β γ ε : Rat} {G : Nat → Nat → Rat} (hs : hky G) : hky (hkC p α β γ ε G) := fun i j => by
  have q : ∀ i j, hkC p α β γ ε G i j = hkT p α β γ ε (fun j' => hkT p α β γ ε (fun i' => G i' j') i) j := fun i j => by
    unfold hkC hkT
    by_cases h : i = p
    · by_cases g : j = p
      · simp only [if_pos h, if_pos g]; grind
      · by_cases g2 : j = p + 1
        · simp only [if_pos h, if_neg g, if_pos g2]; grind
        · simp only [if_pos h, if_neg g, if_neg g2]
    · by_cases h2 : i = p + 1
      · by_cases g : j = p
        · simp only [if_neg h, if_pos h2, if_pos g]; grind
        · by_cases g2 : j = p + 1
          · simp only [if_neg h, if_pos h2, if_neg g, if_pos g2]; grind
          · simp only [if_neg h, if_pos h2, if_neg g, if_neg g2]
      · by_cases g : j = p
        · simp only [if_neg h, if_neg h2, if_pos g]
        · by_cases g2 : j = p + 1
          · simp only [if_neg h, if_neg h2, if_neg g, if_pos g2]
          · simp only [if_neg h, if_neg h2, if_neg g, if_neg g2]
  rw [q i j]
  show _ = hkT p α β γ ε (fun i' => hkT p α β γ ε (G i') i) j
  have : (fun j' => hkT p α β γ ε (fun i' => G i' j') i) = fun i' => hkT p α β γ ε (G i') i := funext fun j' => by
    have : (fun i' => G i' j') = G j' := funext fun i' => hs i' j'
    rw [this]
  rw [this]
theorem hkC_D0 {n : Nat} {α β γ ε : Rat} {G : Nat → Nat → Rat} (hs : hky G) (h : hkP (n + 2) G) (h2 : hkP (n + 2) (hkC 0 α β γ ε G)) (hd : α * ε - β * γ = 1) : hkD (n + 2) (hkC 0 α β γ ε G) = hkD (n + 2) G := by
  rw [hkD_two hs h, hkD_two (hkC_sy hs) h2]
  have c00 : hkC 0 α β γ ε G 0 0 = α * (α * G 0 0 + β * G 0 1) + β * (α * G 1 0 + β * G 1 1) := rfl
  have c01 : hkC 0 α β γ ε G 0 1 = α * (γ * G 0 0 + ε * G 0 1) + β * (γ * G 1 0 + ε * G 1 1) := rfl
  have c11 : hkC 0 α β γ ε G 1 1 = γ * (γ * G 0 0 + ε * G 0 1) + ε * (γ * G 1 0 + ε * G 1 1) := rfl
  have c0 : ∀ j, hkC 0 α β γ ε G 0 (j + 2) = α * G 0 (j + 2) + β * G 1 (j + 2) := fun j => rfl
  have c1 : ∀ j, hkC 0 α β γ ε G 1 (j + 2) = γ * G 0 (j + 2) + ε * G 1 (j + 2) := fun j => rfl
  have c2 : ∀ i j, hkC 0 α β γ ε G (i + 2) (j + 2) = G (i + 2) (j + 2) := fun i j => rfl
  have s : hs 1 0 = hs 1 0 := rfl
  have d1 : hkC 0 α β γ ε G 0 0 * hkC 0 α β γ ε G 1 1 - hkC 0 α β γ ε G 0 1 * hkC 0 α β γ ε G 0 1 = G 0 0 * G 1 1 - G 0 1 * G 0 1 := by
    rw [c00, c01, c11, hs 1 0]
    have : (α * (α * G 0 0 + β * G 0 1) + β * (α * G 0 1 + β * G 1 1)) * (γ * (γ * G 0 0 + ε * G 0 1) + ε * (γ * G 0 1 + ε * G 1 1)) - (α * (γ * G 0 0 + ε * G 0 1) + β * (γ * G 0 1 + ε * G 1 1)) * (α * (γ * G 0 0 + ε * G 0 1) + β * (γ * G 0 1 + ε * G 1 1)) = (α * ε - β * γ) * (α * ε - β * γ) * (G 0 0 * G 1 1 - G 0 1 * G 0 1) := by grind
    rw [this, hd]
    grind
  have d2 : hkS2 (hkC 0 α β γ ε G) = hkS2 G := by
    funext i j
    unfold hkS2
    rw [d1, c0, c0, c1, c1, c2, c00, c01, c11, hs 1 0]
    have : (γ * (γ * G 0 0 + ε * G 0 1) + ε * (γ * G 0 1 + ε * G 1 1)) * (α * G 0 (i + 2) + β * G 1 (i + 2)) * (α * G 0 (j + 2) + β * G 1 (j + 2)) - (α * (γ * G 0 0 + ε * G 0 1) + β * (γ * G 0 1 + ε * G 1 1)) * ((α * G 0 (i + 2) + β * G 1 (i + 2)) * (γ * G 0 (j + 2) + ε * G 1 (j + 2)) + (γ * G 0 (i + 2) + ε * G 1 (i + 2)) * (α * G 0 (j + 2) + β * G 1 (j + 2))) + (α * (α * G 0 0 + β * G 0 1) + β * (α * G 0 1 + β * G 1 1)) * (γ * G 0 (i + 2) + ε * G 1 (i + 2)) * (γ * G 0 (j + 2) + ε * G 1 (j + 2)) = (α * ε - β * γ) * (α * ε - β * γ) * (G 1 1 * G 0 (i + 2) * G 0 (j + 2) - G 0 1 * (G 0 (i + 2) * G 1 (j + 2) + G 1 (i + 2) * G 0 (j + 2)) + G 0 0 * G 1 (i + 2) * G 1 (j + 2)) := by grind
    rw [this, hd]
    grind
  rw [d1, d2]
theorem hkC_D {p : Nat} : ∀ {n : Nat} {α β γ ε : Rat} {G : Nat → Nat → Rat}, p + 2 ≤ n → hky G → hkP n G → hkP n (hkC p α β γ ε G) → α * ε - β * γ = 1 → hkD n (hkC p α β γ ε G) = hkD n G := by
  induction p with
  | zero =>
    intro n α β γ ε G hn hs h h2 hd
    obtain ⟨m, rfl⟩ : ∃ m, n = m + 2 := ⟨n - 2, by omega⟩
    exact hkC_D0 hs h h2 hd
  | succ p ih =>
    intro n α β γ ε G hn hs h h2 hd
    obtain ⟨m, rfl⟩ : ∃ m, n = m + 1 := ⟨n - 1, by omega⟩
    have h3 := h2.2
    rw [hkC_S] at h3
    have e := ih (n := m) (by omega) hs.s h.2 h3 hd
    show hkC (p + 1) α β γ ε G 0 0 * hkD m (hkS (hkC (p + 1) α β γ ε G)) = G 0 0 * hkD m (hkS G)
    rw [hkC_S, e]
    have : hkC (p + 1) α β γ ε G 0 0 = G 0 0 := by
      unfold hkC
      rw [hkT_0, hkT_0]
    rw [this]
