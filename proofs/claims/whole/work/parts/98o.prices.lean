/-! prices: one after the other, the nearest to 0 -/
def clP (S : ZS) (s x : Nat → Int) (nc nr : Nat) (π : Nat → Int) : Prop := ∀ t h w o, eK S s x nc nr nc nr t h w o → π h ≤ π t + w
def PiS (S : ZS) (s x : Nat → Int) (nc nr : Nat) (π : Nat → Int) : Prop := π nr = 0 ∧ clP S s x nc nr π
def prA (S : ZS) (s x : Nat → Int) (nc nr : Nat) (y : Nat → Int) (r : Nat) (v : Int) : Prop := ∃ π, PiS S s x nc nr π ∧ (∀ q, q < r → π q = y q) ∧ π r = v
def nz (A : Int → Prop) (v : Int) : Prop := A v ∧ (0 < v → ∀ w, A w → v ≤ w) ∧ (v < 0 → ∀ w, A w → w ≤ v)
theorem nz.uniq {A : Int → Prop} {v w : Int} (h : nz A v) (g : nz A w) : v = w := by
  obtain ⟨h1, h2, h3⟩ := h
  obtain ⟨g1, g2, g3⟩ := g
  rcases Int.lt_trichotomy v 0 with a | a | a
  · have := h3 a w g1
    have := g3 (by omega) v h1
    omega
  · rcases Int.lt_trichotomy w 0 with b | b | b
    · have := g3 b v h1; omega
    · omega
    · have := g2 b v h1; omega
  · have := h2 a w g1
    have := g2 (by omega) v h1
    omega
def canI (S : ZS) (s x : Nat → Int) (nc nr i : Nat) (y : Nat → Int) : Prop := (∃ π, PiS S s x nc nr π ∧ ∀ q, q < i → π q = y q) ∧ ∀ r, r < i → nz (prA S s x nc nr y r) (y r)
theorem prA_congr {S : ZS} {s x : Nat → Int} {nc nr r : Nat} {y z : Nat → Int} (h : ∀ q, q < r → y q = z q) : prA S s x nc nr y r = prA S s x nc nr z r := by
  funext v
  refine propext ⟨fun ⟨π, a, b, c⟩ => ⟨π, a, fun q hq => (b q hq).trans (h q hq), c⟩, fun ⟨π, a, b, c⟩ => ⟨π, a, fun q hq => (b q hq).trans (h q hq).symm, c⟩⟩
theorem canI.uniq {S : ZS} {s x : Nat → Int} {nc nr i : Nat} {y z : Nat → Int} (h : canI S s x nc nr i y) (g : canI S s x nc nr i z) : ∀ r, r < i → y r = z r := by
  intro r
  induction r using Nat.strongRecOn with
  | ind r ih =>
    intro hr
    have a := h.2 r hr
    have b := g.2 r hr
    rw [prA_congr (fun q hq => ih q hq (by omega))] at a
    exact a.uniq b
theorem eK_xc {S : ZS} {s x z : Nat → Int} {nc nr : Nat} (h : ∀ c, c < nc → x c = z c) {t h' : Nat} {w o : Int} (k : eK S s x nc nr nc nr t h' w o) : eK S s z nc nr nc nr t h' w o := by
  rcases k with ⟨c, a1, a2, a3⟩ | ⟨c, a1, a2, a3⟩ | k | ⟨r, a1, a2, a3, a4⟩
  · exact Or.inl ⟨c, a1, by rw [← h c a1]; exact a2, a3⟩
  · exact Or.inr (Or.inl ⟨c, a1, by rw [← h c a1]; exact a2, a3⟩)
  · exact Or.inr (Or.inr (Or.inl k))
  · exact Or.inr (Or.inr (Or.inr ⟨r, a1, a2, by rw [← ev_congr h]; exact a3, a4⟩))
theorem PiS_xc {S : ZS} {s x z : Nat → Int} {nc nr : Nat} (h : ∀ c, c < nc → x c = z c) {π : Nat → Int} : PiS S s x nc nr π ↔ PiS S s z nc nr π :=
  ⟨fun a => ⟨a.1, fun t h' w o k => a.2 t h' w o (eK_xc (fun c hc => (h c hc).symm) k)⟩, fun a => ⟨a.1, fun t h' w o k => a.2 t h' w o (eK_xc h k)⟩⟩
theorem canI_xc {S : ZS} {s x z : Nat → Int} {nc nr i : Nat} (h : ∀ c, c < nc → x c = z c) {y : Nat → Int} (g : canI S s x nc nr i y) : canI S s z nc nr i y := by
  have e : ∀ r, prA S s x nc nr y r = prA S s z nc nr y r := fun r => by
    funext v
    exact propext ⟨fun ⟨π, a, b⟩ => ⟨π, (PiS_xc h).mp a, b⟩, fun ⟨π, a, b⟩ => ⟨π, (PiS_xc h).mpr a, b⟩⟩
  obtain ⟨⟨π, a, b⟩, c⟩ := g
  exact ⟨⟨π, (PiS_xc h).mp a, b⟩, fun r hr => by rw [← e r]; exact c r hr⟩
theorem clP_min {S : ZS} {s x : Nat → Int} {nc nr : Nat} {π ρ : Nat → Int} (h : clP S s x nc nr π) (g : clP S s x nc nr ρ) : clP S s x nc nr (fun v => if π v ≤ ρ v then π v else ρ v) := fun t h' w o k => by
  have a := h t h' w o k
  have b := g t h' w o k
  show (if π h' ≤ ρ h' then π h' else ρ h') ≤ (if π t ≤ ρ t then π t else ρ t) + w
  split <;> split <;> omega
theorem clP_max {S : ZS} {s x : Nat → Int} {nc nr : Nat} {π ρ : Nat → Int} (h : clP S s x nc nr π) (g : clP S s x nc nr ρ) : clP S s x nc nr (fun v => if π v ≤ ρ v then ρ v else π v) := fun t h' w o k => by
  have a := h t h' w o k
  have b := g t h' w o k
  show (if π h' ≤ ρ h' then ρ h' else π h') ≤ (if π t ≤ ρ t then ρ t else π t) + w
  split <;> split <;> omega
theorem clP_add {S : ZS} {s x : Nat → Int} {nc nr : Nat} {π : Nat → Int} (C : Int) (h : clP S s x nc nr π) : clP S s x nc nr (fun v => π v + C) := fun t h' w o k => by
  have a := h t h' w o k
  show π h' + C ≤ π t + C + w
  omega
/-- prices are not large -/
theorem canI_bd {S : ZS} {s x : Nat → Int} {nc nr i : Nat} {y ρ : Nat → Int} {K : Int} (hK : 0 ≤ K) (hi : i ≤ nr) (hρ : clP S s x nc nr ρ) (hb : ∀ v, v < nr + 1 → -K ≤ ρ v ∧ ρ v ≤ K) (h : canI S s x nc nr i y) : ∀ r, r < i → -(2 * K * ((r : Int) + 1)) ≤ y r ∧ y r ≤ 2 * K * ((r : Int) + 1) := by
  intro r
  induction r using Nat.strongRecOn with
  | ind r ih =>
    intro hr
    obtain ⟨⟨π, p1, p2, p3⟩, n2, n3⟩ := h.2 r hr
    have e : 2 * K * ((r : Int) + 1) = 2 * K * r + 2 * K := by rw [Int.mul_add]; omega
    have y0 : 0 ≤ 2 * K * (r : Int) := Int.mul_nonneg (by omega) (by omega)
    have pre : ∀ q, q < r → -(2 * K * (r : Int)) ≤ y q ∧ y q ≤ 2 * K * (r : Int) := fun q hq => by
      have := ih q hq (by omega)
      have m : 2 * K * ((q : Int) + 1) ≤ 2 * K * (r : Int) := Int.mul_le_mul_of_nonneg_left (by omega) (by omega)
      omega
    generalize 2 * K * (r : Int) = Y at *
    rw [e]
    refine ⟨?_, ?_⟩
    · rcases Int.lt_or_le (y r) 0 with g | g
      · have := n3 g _ ⟨_, ⟨?_, clP_max p1.2 (clP_add (-(Y + K)) hρ)⟩, fun q hq => ?_, rfl⟩
        · have b := hb r (by omega)
          have : ρ r + -(Y + K) ≤ y r := by
            refine Int.le_trans ?_ this
            split <;> omega
          omega
        · have b := hb nr (by omega)
          have := p1.1
          show (if π nr ≤ ρ nr + -(Y + K) then ρ nr + -(Y + K) else π nr) = 0
          split <;> omega
        · have b := hb q (by omega)
          have := p2 q hq
          have := pre q hq
          show (if π q ≤ ρ q + -(Y + K) then ρ q + -(Y + K) else π q) = y q
          split <;> omega
      · omega
    · rcases Int.lt_or_le 0 (y r) with g | g
      · have := n2 g _ ⟨_, ⟨?_, clP_min p1.2 (clP_add (Y + K) hρ)⟩, fun q hq => ?_, rfl⟩
        · have b := hb r (by omega)
          have : y r ≤ ρ r + (Y + K) := by
            refine Int.le_trans this ?_
            split <;> omega
          omega
        · have b := hb nr (by omega)
          have := p1.1
          show (if π nr ≤ ρ nr + (Y + K) then π nr else ρ nr + (Y + K)) = 0
          split <;> omega
        · have b := hb q (by omega)
          have := p2 q hq
          have := pre q hq
          show (if π q ≤ ρ q + (Y + K) then π q else ρ q + (Y + K)) = y q
          split <;> omega
      · omega
