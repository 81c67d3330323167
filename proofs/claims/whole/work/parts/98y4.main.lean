/-! independent integer rows and the sum of their numbers -/
theorem hkP_mono {n : Nat} : ∀ {G : Nat → Nat → Rat}, hkP (n + 1) G → hkP n G := by
  induction n with
  | zero => intro G _; trivial
  | succ n ih => intro G h; exact ⟨h.1, ih h.2⟩
theorem hkL_pos {n : Nat} : ∀ {G : Nat → Nat → Rat}, hkP (n + 1) G → 0 < hkL n G := by
  induction n with
  | zero => intro G h; exact h.1
  | succ n ih => intro G h; exact ih h.2
theorem hkLat : ∀ (n : Nat) {Q : Nat → Nat → Rat} {B : Nat → Nat → Int}, hky Q → hkP n Q → hkI n n B → hkD n Q ≤ hkD n (hkgm n Q (hkqi B)) := by
  intro n
  induction n with
  | zero => intro Q B _ _ _; show (1 : Rat) ≤ 1; grind
  | succ n ih =>
    intro Q B hs h hi
    obtain ⟨B1, ⟨b1, b3⟩, b2⟩ := hkbub (K := fun X => hkI (n + 1) (n + 1) X ∧ hkD (n + 1) (hkgm (n + 1) Q (hkqi X)) = hkD (n + 1) (hkgm (n + 1) Q (hkqi B))) (c := n) (n := n) (fun p hp X α β γ ε hd hX => by
      have i2 := hkI_T (p := p) (by omega) hd hX.1
      refine ⟨i2, ?_⟩
      have p2 := hkgm_P hs h i2
      rw [hkgm_T hs] at p2 ⊢
      rw [← hX.2]
      refine hkC_D (by omega) (hkgm_sy hs) (hkgm_P hs h hX.1) p2 ?_
      have e : ((α * ε - β * γ : Int) : Rat) = ((1 : Int) : Rat) := by rw [hd]
      rw [Rat.intCast_sub, Rat.intCast_mul, Rat.intCast_mul] at e
      exact e) ⟨hi, rfl⟩ n (Nat.le_refl _)
    rw [← b3]
    have q0 : ∀ i, i < n → hkqi B1 i n = 0 := fun i hi => by unfold hkqi; rw [b2 i hi]; rfl
    have in1 : hkI n n B1 := fun z hz i hi => by
      have e := b1 (fun i => if i < n then z i else 0) (fun c hc => by
        rw [hR_last, if_neg (by omega), hR_congr (g := fun i => z i * hkqi B1 i c) (fun i hi => by rw [if_pos hi])]
        by_cases e : c = n
        · have : hR n (fun i => z i * hkqi B1 i c) = 0 := hR_0 (fun i hi => by rw [e, q0 i hi]; grind)
          rw [this]; grind
        · rw [hz c (by omega)]; grind) i (by omega)
      rw [if_pos hi] at e
      exact e
    have h0 : B1 n n ≠ 0 := fun z => by
      refine hkdim n B1 (fun y hy i hi => ?_)
      refine b1 y (fun c hc => ?_) i hi
      by_cases e : c = n
      · refine hR_0 (fun i hi => ?_)
        have : hkqi B1 i c = 0 := by
          rw [e]
          by_cases e2 : i = n
          · rw [e2]; unfold hkqi; rw [z]; rfl
          · exact q0 i (by omega)
        rw [this]; grind
      · exact hy c (by omega)
    have PG := hkgm_P hs h b1
    have d1 : hkD n (hkgm (n + 1) Q (hkqi B1)) = hkD n (hkgm n Q (hkqi B1)) := hkD_congr (fun i j hi hj => by
      show hR (n + 1) (fun c => hR (n + 1) (fun d => Q c d * hkqi B1 i c * hkqi B1 j d)) = hR n (fun c => hR n (fun d => Q c d * hkqi B1 i c * hkqi B1 j d))
      rw [hR_last]
      have e1 : hR (n + 1) (fun d => Q n d * hkqi B1 i n * hkqi B1 j d) = 0 := hR_0 (fun d _ => by rw [q0 i hi]; grind)
      rw [e1]
      have e2 : hR n (fun c => hR (n + 1) (fun d => Q c d * hkqi B1 i c * hkqi B1 j d)) = hR n (fun c => hR n (fun d => Q c d * hkqi B1 i c * hkqi B1 j d)) := hR_congr (fun c _ => by
        rw [hR_last, q0 j hj]
        grind)
      rw [e2]
      grind)
    have g1 := ih hs (hkP_mono h) in1
    rw [hkD_last, hkD_last, d1]
    obtain ⟨z, z1, z2⟩ := hkL_ex (hkgm_sy hs) PG
    have g2 : hkL n Q ≤ hkL n (hkgm (n + 1) Q (hkqi B1)) := by
      rw [← z2, hkgm_Q hs]
      have e := hkL_le hs h (fun c => hR (n + 1) (fun i => z i * hkqi B1 i c))
      have e1 : hR (n + 1) (fun i => z i * hkqi B1 i n) = (B1 n n : Rat) := by
        rw [hR_last, z1, hR_0 (fun i hi => by rw [q0 i hi]; grind)]
        unfold hkqi
        grind
      rw [e1] at e
      have e2 : (1 : Rat) ≤ (B1 n n : Rat) * (B1 n n : Rat) := by
        have : (1 : Int) ≤ B1 n n * B1 n n := by
          rcases Int.lt_or_gt_of_ne h0 with g | g
          · have := Int.mul_le_mul_of_nonneg_left (a := 1) (b := -B1 n n) (c := -B1 n n) (by omega) (by omega)
            have t : -B1 n n * -B1 n n = B1 n n * B1 n n := by grind
            omega
          · have := Int.mul_le_mul_of_nonneg_left (a := 1) (b := B1 n n) (c := B1 n n) (by omega) (by omega)
            omega
        have t := Rat.intCast_le_intCast.mpr this
        rw [Rat.intCast_mul] at t
        exact t
      have e3 := Rat.mul_nonneg (a := hkL n Q) (b := (B1 n n : Rat) * (B1 n n : Rat) - 1) (by have := hkL_pos h; grind) (by grind)
      grind
    have p1 := hkD_pos (hkP_mono h)
    have p2 := hkL_pos h
    have p3 := hkD_pos (hkgm_P hs (hkP_mono h) in1)
    exact rmul_le g1 g2 (by grind) (by grind)
theorem hk_bound {m : Nat} {Q : Nat → Nat → Rat} {B : Nat → Nat → Int} {t g : Rat} {z : Nat → Rat} (hs : hky Q) (h : hkP m Q) (hi : hkI m m B) (ht : 0 < t) (hg : ∀ i, i < m → hkQ m Q (hkqi B i) ≤ g) :
    t * hkD m Q * (hR m z * hR m z) ≤ (g + t) ^ m * hkQ m Q (fun c => hR m (fun i => z i * hkqi B i c)) := by
  have PG := hkgm_P hs h hi
  obtain ⟨a1, a2, a3⟩ := hkH (l := fun _ => 1) (hkgm_sy hs) PG ht
  have a4 := a3 z
  have e1 : hR m (fun i => 1 * z i) = hR m z := hR_congr (fun i _ => by grind)
  rw [e1, hkgm_Q hs] at a4
  have a5 := hkD_le (M := g + t) (hkA_sy (hkgm_sy hs) t (fun _ => 1)) a1 (fun i hi => by
    have := hg i hi
    show hkgm m Q (hkqi B) i i + t * 1 * 1 ≤ g + t
    have e : hkgm m Q (hkqi B) i i = hkQ m Q (hkqi B i) := rfl
    rw [e]
    grind)
  have a6 := hkLat m hs h hi
  have p0 := hkD_pos PG
  have p1 := hkQ_pos hs h (fun c => hR m (fun i => z i * hkqi B i c))
  have b1 := Rat.mul_nonneg (a := t * (hkD m (hkgm m Q (hkqi B)) - hkD m Q)) (b := hR m z * hR m z) (Rat.mul_nonneg (by grind) (by grind)) (rsq _)
  have b2 := Rat.mul_nonneg (a := (g + t) ^ m - hkD m (hkA (hkgm m Q (hkqi B)) t (fun _ => 1)) + hkD m (hkgm m Q (hkqi B))) (b := hkQ m Q (fun c => hR m (fun i => z i * hkqi B i c))) (by grind) p1
  generalize hkQ m Q (fun c => hR m (fun i => z i * hkqi B i c)) = F at *
  generalize hkD m (hkA (hkgm m Q (hkqi B)) t (fun _ => 1)) = D2 at *
  generalize hkD m (hkgm m Q (hkqi B)) = D1 at *
  generalize (g + t) ^ m = E at *
  generalize hR m z * hR m z = Z at *
  grind
/-- the dimension, over Rat -/
def hkIr (n m : Nat) (B : Nat → Nat → Rat) : Prop := ∀ z : Nat → Rat, (∀ c, c < m → hR n (fun i => z i * B i c) = 0) → ∀ i, i < n → z i = 0
theorem hkIr_T {n m p : Nat} {α β γ ε : Rat} {B : Nat → Nat → Rat} (hp : p + 2 ≤ n) (hd : α * ε - β * γ = 1) (h : hkIr n m B) : hkIr n m (fun i c => hkT p α β γ ε (fun i => B i c) i) := fun z hz => by
  have y0 := h (hkT p α γ β ε z) (fun c hc => by
    have e := hz c hc
    rw [hT_dual _ _ _ _ _ _ hp] at e
    exact e)
  have a1 := y0 p (by omega)
  have a2 := y0 (p + 1) (by omega)
  unfold hkT at a1 a2
  rw [if_pos rfl] at a1
  rw [if_neg (by omega), if_pos rfl] at a2
  intro i hi
  by_cases e1 : i = p
  · rw [e1]; grind
  · by_cases e2 : i = p + 1
    · rw [e2]; grind
    · have := y0 i hi
      unfold hkT at this
      rw [if_neg e1, if_neg e2] at this
      exact this
theorem hkbubr {n m c : Nat} {B : Nat → Nat → Rat} (h : hkIr (n + 1) m B) : ∀ q, q ≤ n → ∃ B', hkIr (n + 1) m B' ∧ ∀ p, p < q → B' p c = 0 := by
  intro q
  induction q with
  | zero => intro _; exact ⟨B, h, fun p hp => by omega⟩
  | succ q ih =>
    intro hq
    obtain ⟨B1, b1, b2⟩ := ih (by omega)
    have fr : ∀ α β γ ε p, p < q → hkT q α β γ ε (fun i => B1 i c) p = 0 := fun α β γ ε p hp => by
      unfold hkT; rw [if_neg (by omega), if_neg (by omega)]; exact b2 p hp
    have at0 : ∀ α β γ ε, hkT q α β γ ε (fun i => B1 i c) q = α * B1 q c + β * B1 (q + 1) c := fun α β γ ε => by unfold hkT; rw [if_pos rfl]
    have fin : ∀ α β γ ε, α * ε - β * γ = 1 → α * B1 q c + β * B1 (q + 1) c = 0 → ∃ B', hkIr (n + 1) m B' ∧ ∀ p, p < q + 1 → B' p c = 0 := fun α β γ ε hd hz =>
      ⟨_, hkIr_T (p := q) (α := α) (β := β) (γ := γ) (ε := ε) (by omega) hd b1, fun p hp => by
        by_cases e : p = q
        · rw [e]; exact (at0 α β γ ε).trans hz
        · exact fr α β γ ε p (by omega)⟩
    by_cases y0 : B1 (q + 1) c = 0
    · exact fin 0 (-1) 1 0 (by grind) (by rw [y0]; grind)
    · exact fin 1 (-(B1 q c / B1 (q + 1) c)) 0 1 (by grind) (by grind)
theorem hkdimr : ∀ (n : Nat) (B : Nat → Nat → Rat), ¬ hkIr (n + 1) n B := by
  intro n
  induction n with
  | zero =>
    intro B h
    have e := h (fun _ => 1) (fun c hc => by omega) 0 (by omega)
    exact absurd e (by decide)
  | succ n ih =>
    intro B h
    obtain ⟨B1, b1, b2⟩ := hkbubr (c := n) h (n + 1) (Nat.le_refl _)
    refine ih B1 (fun z hz i hi => ?_)
    have e := b1 (fun i => if i < n + 1 then z i else 0) (fun c hc => by
      rw [hR_last, if_neg (by omega), hR_congr (g := fun i => z i * B1 i c) (fun i hi => by rw [if_pos hi])]
      by_cases e : c = n
      · have : hR (n + 1) (fun i => z i * B1 i c) = 0 := hR_0 (fun i hi => by rw [e, b2 i hi]; grind)
        rw [this]; grind
      · rw [hz c (by omega)]; grind) i (by omega)
    rw [if_pos hi] at e
    exact e
