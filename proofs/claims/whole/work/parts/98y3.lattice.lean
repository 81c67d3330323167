/-! independent rows of integers: the product of the pivots of their form is not below that of the form -/
def hkbl (m : Nat) (Q : Nat → Nat → Rat) (x y : Nat → Rat) : Rat := hR m (fun c => hR m (fun d => Q c d * x c * y d))
theorem hkbl_l {m : Nat} {Q : Nat → Nat → Rat} (α β : Rat) (x x' y : Nat → Rat) : hkbl m Q (fun c => α * x c + β * x' c) y = α * hkbl m Q x y + β * hkbl m Q x' y := by
  unfold hkbl
  rw [← hR_mul, ← hR_mul, ← hR_add]
  refine hR_congr (fun c _ => ?_)
  rw [← hR_mul, ← hR_mul, ← hR_add]
  exact hR_congr (fun d _ => by grind)
theorem hkbl_sy {m : Nat} {Q : Nat → Nat → Rat} (hs : hky Q) (x y : Nat → Rat) : hkbl m Q x y = hkbl m Q y x := by
  unfold hkbl
  rw [hR_swap]
  exact hR_congr (fun c _ => hR_congr (fun d _ => by rw [hs d c]; grind))
theorem hkbl_0 {m : Nat} {Q : Nat → Nat → Rat} (y : Nat → Rat) : hkbl m Q (fun _ => 0) y = 0 := hR_0 (fun c _ => hR_0 (fun d _ => by grind))
theorem hkbl_sum {m n : Nat} {Q : Nat → Nat → Rat} : ∀ (z : Nat → Rat) (B : Nat → Nat → Rat) (y : Nat → Rat), hkbl m Q (fun c => hR n (fun i => z i * B i c)) y = hR n (fun i => z i * hkbl m Q (B i) y) := by
  induction n with
  | zero => intro z B y; exact hkbl_0 y
  | succ n ih =>
    intro z B y
    have e := hkbl_l (m := m) (Q := Q) (z 0) 1 (B 0) (fun c => hR n (fun i => z (i + 1) * B (i + 1) c)) y
    rw [ih (fun i => z (i + 1)) (fun i => B (i + 1)) y] at e
    have t : (fun c => hR (n + 1) (fun i => z i * B i c)) = fun c => z 0 * B 0 c + 1 * hR n (fun i => z (i + 1) * B (i + 1) c) := funext fun c => by
      show z 0 * B 0 c + hR n (fun i => z (i + 1) * B (i + 1) c) = _
      grind
    rw [t, e]
    show _ = z 0 * hkbl m Q (B 0) y + hR n (fun i => z (i + 1) * hkbl m Q (B (i + 1)) y)
    grind
def hkgm (m : Nat) (Q B : Nat → Nat → Rat) : Nat → Nat → Rat := fun i j => hkbl m Q (B i) (B j)
theorem hkgm_sy {m : Nat} {Q B : Nat → Nat → Rat} (hs : hky Q) : hky (hkgm m Q B) := fun i j => hkbl_sy hs _ _
theorem hkgm_Q {m n : Nat} {Q B : Nat → Nat → Rat} (hs : hky Q) (z : Nat → Rat) : hkQ n (hkgm m Q B) z = hkQ m Q (fun c => hR n (fun i => z i * B i c)) := by
  show _ = hkbl m Q (fun c => hR n (fun i => z i * B i c)) (fun c => hR n (fun i => z i * B i c))
  rw [hkbl_sum]
  unfold hkQ
  refine hR_congr (fun i _ => ?_)
  rw [hkbl_sy hs, hkbl_sum, ← hR_mul]
  refine hR_congr (fun j _ => ?_)
  show hkbl m Q (B i) (B j) * z i * z j = z i * (z j * hkbl m Q (B j) (B i))
  rw [hkbl_sy hs (B j) (B i)]
  grind
theorem hkQ_pd {n : Nat} : ∀ {G : Nat → Nat → Rat}, hky G → hkP n G → ∀ z : Nat → Rat, (∃ i, i < n ∧ z i ≠ 0) → 0 < hkQ n G z := by
  induction n with
  | zero => intro G _ _ z ⟨i, hi, _⟩; omega
  | succ n ih =>
    intro G hs h z hz
    have h0 := h.1
    rw [hkQ_succ hs (by grind)]
    have e2 := Rat.mul_nonneg (a := G 0 0) (by grind) (rsq (z 0 + hR n (fun j => G 0 (j + 1) * z (j + 1)) / G 0 0))
    by_cases g : ∃ i, i < n ∧ z (i + 1) ≠ 0
    · have e1 := ih hs.s h.2 (fun i => z (i + 1)) g
      grind
    · have g0 : ∀ i, i < n → z (i + 1) = 0 := fun i hi => Classical.byContradiction fun q => g ⟨i, hi, q⟩
      have L0 : hR n (fun j => G 0 (j + 1) * z (j + 1)) = 0 := hR_0 (fun j hj => by rw [g0 j hj]; grind)
      have e1 := hkQ_pos hs.s h.2 (fun i => z (i + 1))
      obtain ⟨i, hi, hi2⟩ := hz
      have z0 : z 0 ≠ 0 := by
        rcases i with _ | i
        · exact hi2
        · exact absurd (g0 i (by omega)) hi2
      rw [L0] at *
      have e3 := Rat.mul_pos h0 (rsq_pos z0)
      have e4 : z 0 + 0 / G 0 0 = z 0 := by grind
      rw [e4] at *
      grind
def hkqi (B : Nat → Nat → Int) : Nat → Nat → Rat := fun i c => (B i c : Rat)
/-- independent -/
def hkI (n m : Nat) (B : Nat → Nat → Int) : Prop := ∀ z : Nat → Rat, (∀ c, c < m → hR n (fun i => z i * hkqi B i c) = 0) → ∀ i, i < n → z i = 0
theorem hkgm_P {n m : Nat} {Q : Nat → Nat → Rat} {B : Nat → Nat → Int} (hs : hky Q) (h : hkP m Q) (hi : hkI n m B) : hkP n (hkgm m Q (hkqi B)) := by
  refine hkP_of (hkgm_sy hs) (fun z hz => ?_)
  rw [hkgm_Q hs]
  refine hkQ_pd hs h _ (Classical.byContradiction fun g => ?_)
  obtain ⟨i, hi1, hi2⟩ := hz
  exact hi2 (hi z (fun c hc => Classical.byContradiction fun q => g ⟨c, hc, q⟩) i hi1)
def hkiT (p : Nat) (α β γ ε : Int) (B : Nat → Nat → Int) : Nat → Nat → Int := fun i c => if i = p then α * B p c + β * B (p + 1) c else if i = p + 1 then γ * B p c + ε * B (p + 1) c else B i c
theorem hkiT_q (p : Nat) (α β γ ε : Int) (B : Nat → Nat → Int) (i c : Nat) : hkqi (hkiT p α β γ ε B) i c = hkT p (α : Rat) (β : Rat) (γ : Rat) (ε : Rat) (fun i => hkqi B i c) i := by
  unfold hkqi hkiT hkT
  by_cases h : i = p
  · rw [if_pos h, if_pos h, Rat.intCast_add, Rat.intCast_mul, Rat.intCast_mul]
  · rw [if_neg h, if_neg h]
    by_cases h : i = p + 1
    · rw [if_pos h, if_pos h, Rat.intCast_add, Rat.intCast_mul, Rat.intCast_mul]
    · rw [if_neg h, if_neg h]
theorem hkiT_row (p : Nat) (α β γ ε : Int) (B : Nat → Nat → Int) (m : Nat) (Q : Nat → Nat → Rat) (i : Nat) (y : Nat → Rat) : hkbl m Q (hkqi (hkiT p α β γ ε B) i) y = hkT p (α : Rat) (β : Rat) (γ : Rat) (ε : Rat) (fun i => hkbl m Q (hkqi B i) y) i := by
  by_cases h : i = p
  · have t : hkqi (hkiT p α β γ ε B) i = fun c => (α : Rat) * hkqi B p c + (β : Rat) * hkqi B (p + 1) c := funext fun c => by
      rw [hkiT_q]; unfold hkT; rw [if_pos h]
    rw [t, hkbl_l]
    unfold hkT
    rw [if_pos h]
  · by_cases h2 : i = p + 1
    · have t : hkqi (hkiT p α β γ ε B) i = fun c => (γ : Rat) * hkqi B p c + (ε : Rat) * hkqi B (p + 1) c := funext fun c => by
        rw [hkiT_q]; unfold hkT; rw [if_neg h, if_pos h2]
      rw [t, hkbl_l]
      unfold hkT
      rw [if_neg h, if_pos h2]
    · have t : hkqi (hkiT p α β γ ε B) i = hkqi B i := funext fun c => by
        rw [hkiT_q]; unfold hkT; rw [if_neg h, if_neg h2]
      rw [t]
      unfold hkT
      rw [if_neg h, if_neg h2]
theorem hkgm_T {m : Nat} {Q : Nat → Nat → Rat} (hs : hky Q) (p : Nat) (α β γ ε : Int) (B : Nat → Nat → Int) : hkgm m Q (hkqi (hkiT p α β γ ε B)) = hkC p (α : Rat) (β : Rat) (γ : Rat) (ε : Rat) (hkgm m Q (hkqi B)) := by
  funext i j
  show hkbl m Q (hkqi (hkiT p α β γ ε B) i) (hkqi (hkiT p α β γ ε B) j) = hkT p (α : Rat) (β : Rat) (γ : Rat) (ε : Rat) (fun i' => hkT p (α : Rat) (β : Rat) (γ : Rat) (ε : Rat) (hkgm m Q (hkqi B) i') j) i
  rw [hkiT_row]
  have : (fun i' => hkbl m Q (hkqi B i') (hkqi (hkiT p α β γ ε B) j)) = fun i' => hkT p (α : Rat) (β : Rat) (γ : Rat) (ε : Rat) (hkgm m Q (hkqi B) i') j := funext fun i' => by
    rw [hkbl_sy hs, hkiT_row]
    have : (fun i => hkbl m Q (hkqi B i) (hkqi B i')) = hkgm m Q (hkqi B) i' := funext fun i => hkbl_sy hs _ _
    rw [this]
  rw [this]
theorem hT_dual {p : Nat} : ∀ {N : Nat} (α β γ ε : Rat) (z b : Nat → Rat), p + 2 ≤ N → hR N (fun i => z i * hkT p α β γ ε b i) = hR N (fun i => hkT p α γ β ε z i * b i) := by
  induction p with
  | zero =>
    intro N α β γ ε z b hN
    obtain ⟨m, rfl⟩ : ∃ m, N = m + 2 := ⟨N - 2, by omega⟩
    show z 0 * (α * b 0 + β * b 1) + (z 1 * (γ * b 0 + ε * b 1) + hR m (fun i => z (i + 2) * b (i + 2))) = (α * z 0 + γ * z 1) * b 0 + ((β * z 0 + ε * z 1) * b 1 + hR m (fun i => z (i + 2) * b (i + 2)))
    grind
  | succ p ih =>
    intro N α β γ ε z b hN
    obtain ⟨m, rfl⟩ : ∃ m, N = m + 1 := ⟨N - 1, by omega⟩
    show z 0 * hkT (p + 1) α β γ ε b 0 + hR m (fun i => z (i + 1) * hkT (p + 1) α β γ ε b (i + 1)) = hkT (p + 1) α γ β ε z 0 * b 0 + hR m (fun i => hkT (p + 1) α γ β ε z (i + 1) * b (i + 1))
    have e := ih (N := m) α β γ ε (fun i => z (i + 1)) (fun i => b (i + 1)) (by omega)
    rw [hkT_0, hkT_0, hR_congr (fun i _ => by rw [hkT_s]), e]
    rw [hR_congr (fun i _ => by rw [hkT_s]) (f := fun i => hkT (p + 1) α γ β ε z (i + 1) * b (i + 1)) (g := fun i => hkT p α γ β ε (fun i => z (i + 1)) i * b (i + 1))]
theorem hkI_T {n m p : Nat} {α β γ ε : Int} {B : Nat → Nat → Int} (hp : p + 2 ≤ n) (hd : α * ε - β * γ = 1) (h : hkI n m B) : hkI n m (hkiT p α β γ ε B) := fun z hz => by
  have hd2 : (α : Rat) * ε - β * γ = 1 := by
    have e : ((α * ε - β * γ : Int) : Rat) = ((1 : Int) : Rat) := by rw [hd]
    rw [Rat.intCast_sub, Rat.intCast_mul, Rat.intCast_mul] at e
    exact e
  have y0 := h (hkT p (α : Rat) (γ : Rat) (β : Rat) (ε : Rat) z) (fun c hc => by
    have e := hz c hc
    rw [hR_congr (fun i _ => by rw [hkiT_q]), hT_dual _ _ _ _ _ _ hp] at e
    exact e)
  have a1 := y0 p (by omega)
  have a2 := y0 (p + 1) (by omega)
  unfold hkT at a1 a2
  rw [if_pos rfl] at a1
  rw [if_neg (by omega), if_pos rfl] at a2
  intro i hi
  by_cases e1 : i = p
  · rw [e1]; grind
  · by_cases e2 : i = p + 1
    · rw [e2]; grind
    · have := y0 i hi
      unfold hkT at this
      rw [if_neg e1, if_neg e2] at this
      exact this
theorem hkeu {K : (Nat → Nat → Int) → Prop} {p c : Nat} (hK : ∀ B α β γ ε, α * ε - β * γ = 1 → K B → K (hkiT p α β γ ε B)) : ∀ m B, (B p c).natAbs + (B (p + 1) c).natAbs ≤ m → K B → ∃ B', K B' ∧ B' p c = 0 ∧ ∀ i, i ≠ p → i ≠ p + 1 → B' i = B i := by
  intro m
  induction m with
  | zero => intro B hm h; exact ⟨B, h, by omega, fun _ _ _ => rfl⟩
  | succ m ih =>
    intro B hm h
    by_cases x0 : B p c = 0
    · exact ⟨B, h, x0, fun _ _ _ => rfl⟩
    · have fr : ∀ α β γ ε i, i ≠ p → i ≠ p + 1 → hkiT p α β γ ε B i = B i := fun α β γ ε i h1 h2 => funext fun c => by
        unfold hkiT; rw [if_neg h1, if_neg h2]
      have at0 : ∀ α β γ ε, hkiT p α β γ ε B p c = α * B p c + β * B (p + 1) c := fun α β γ ε => by unfold hkiT; rw [if_pos rfl]
      have at1 : ∀ α β γ ε, hkiT p α β γ ε B (p + 1) c = γ * B p c + ε * B (p + 1) c := fun α β γ ε => by unfold hkiT; rw [if_neg (by omega), if_pos rfl]
      by_cases y0 : B (p + 1) c = 0
      · exact ⟨_, hK B 0 (-1) 1 0 (by decide) h, by rw [at0]; omega, fr 0 (-1) 1 0⟩
      · have go : ∀ α β γ ε, α * ε - β * γ = 1 → (α * B p c + β * B (p + 1) c).natAbs + (γ * B p c + ε * B (p + 1) c).natAbs ≤ m → ∃ B', K B' ∧ B' p c = 0 ∧ ∀ i, i ≠ p → i ≠ p + 1 → B' i = B i := fun α β γ ε hd hle => by
          obtain ⟨B', b1, b2, b3⟩ := ih (hkiT p α β γ ε B) (by rw [at0, at1]; exact hle) (hK B α β γ ε hd h)
          exact ⟨B', b1, b2, fun i h1 h2 => (b3 i h1 h2).trans (fr α β γ ε i h1 h2)⟩
        by_cases big : (B (p + 1) c).natAbs ≤ (B p c).natAbs
        · by_cases sg : (0 < B p c ↔ 0 < B (p + 1) c)
          · exact go 1 (-1) 0 1 (by decide) (by omega)
          · exact go 1 1 0 1 (by decide) (by omega)
        · by_cases sg : (0 < B p c ↔ 0 < B (p + 1) c)
          · exact go 1 0 (-1) 1 (by decide) (by omega)
          · exact go 1 0 1 1 (by decide) (by omega)
theorem hkbub {K : (Nat → Nat → Int) → Prop} {c n : Nat} (hK : ∀ p, p < n → ∀ B α β γ ε, α * ε - β * γ = 1 → K B → K (hkiT p α β γ ε B)) {B : Nat → Nat → Int} (h : K B) : ∀ q, q ≤ n → ∃ B', K B' ∧ ∀ p, p < q → B' p c = 0 := by
  intro q
  induction q with
  | zero => intro _; exact ⟨B, h, fun p hp => by omega⟩
  | succ q ih =>
    intro hq
    obtain ⟨B1, b1, b2⟩ := ih (by omega)
    obtain ⟨B2, c1, c2, c3⟩ := hkeu (K := K) (p := q) (c := c) (hK q (by omega)) _ B1 (Nat.le_refl _) b1
    refine ⟨B2, c1, fun p hp => ?_⟩
    by_cases e : p = q
    · rw [e]; exact c2
    · rw [c3 p e (by omega)]; exact b2 p (by omega)
theorem hkdim : ∀ (n : Nat) (B : Nat → Nat → Int), ¬ hkI (n + 1) n B := by
  intro n
  induction n with
  | zero =>
    intro B h
    have e := h (fun _ => 1) (fun c hc => by omega) 0 (by omega)
    exact absurd e (by decide)
  | succ n ih =>
    intro B h
    obtain ⟨B1, b1, b2⟩ := hkbub (K := hkI (n + 2) (n + 1)) (c := n) (n := n + 1) (fun p hp B α β γ ε hd hB => hkI_T (by omega) hd hB) h (n + 1) (Nat.le_refl _)
    refine ih B1 (fun z hz i hi => ?_)
    have e := b1 (fun i => if i < n + 1 then z i else 0) (fun c hc => by
      rw [hR_last, if_neg (by omega), hR_congr (g := fun i => z i * hkqi B1 i c) (fun i hi => by rw [if_pos hi])]
      by_cases e : c = n
      · have : hR (n + 1) (fun i => z i * hkqi B1 i c) = 0 := hR_0 (fun i hi => by
          have : hkqi B1 i c = 0 := by unfold hkqi; rw [e, b2 i hi]; rfl
          rw [this]; grind)
        rw [this]; grind
      · rw [hz c (by omega)]; grind) i (by omega)
    rw [if_pos hi] at e
    exact e
