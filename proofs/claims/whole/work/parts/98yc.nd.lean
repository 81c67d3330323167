/-! the pivots of a graph's form against those of its nodes -/
theorem hR_lea {n : Nat} {f : Nat → Rat} (h : ∀ i, i < n → 0 ≤ f i) {i : Nat} (hi : i < n) : f i ≤ hR n f := by
  have e := hR_le (n := n) (f := fun j => if j = i then f i else 0) (g := f) (fun j hj => by
    show (if j = i then f i else 0) ≤ f j
    by_cases q : j = i
    · rw [if_pos q, q]; grind
    · rw [if_neg q]; exact h j hj)
  rw [hR_one (c := i) hi (fun j _ hne => by rw [if_neg hne]), if_pos rfl] at e
  exact e
theorem hk_cs2 {P R A1 A2 B1 B2 : Rat} (a1 : 0 ≤ A1) (a2 : 0 ≤ A2) (b1 : 0 ≤ B1) (b2 : 0 ≤ B2) (h1 : P * P ≤ A1 * B1) (h2 : R * R ≤ A2 * B2) : (P + R) * (P + R) ≤ (A1 + A2) * (B1 + B2) := by
  have s0 := Rat.mul_nonneg a1 b2
  have s1 := Rat.mul_nonneg a2 b1
  have key : 2 * (P * R) ≤ A1 * B2 + A2 * B1 := by
    rcases Rat.le_total (a := 2 * (P * R)) (b := A1 * B2 + A2 * B1) with g | g
    · exact g
    · have e1 := rmul_le (a := A1 * B2 + A2 * B1) (b := 2 * (P * R)) (c := A1 * B2 + A2 * B1) (d := 2 * (P * R)) g g (by grind) (by grind)
      have e2 := rmul_le (a := P * P) (b := A1 * B1) (c := R * R) (d := A2 * B2) h1 h2 (rsq R) (Rat.mul_nonneg a1 b1)
      have e3 := rsq (A1 * B2 - A2 * B1)
      -- so both are the same
      have e4 : (2 * (P * R)) * (2 * (P * R)) ≤ (A1 * B2 + A2 * B1) * (A1 * B2 + A2 * B1) := by
        have t1 : (2 * (P * R)) * (2 * (P * R)) = 4 * (P * P * (R * R)) := by grind
        have t2 : (A1 * B2 + A2 * B1) * (A1 * B2 + A2 * B1) = (A1 * B2 - A2 * B1) * (A1 * B2 - A2 * B1) + 4 * (A1 * B1 * (A2 * B2)) := by grind
        rw [t1, t2]
        grind
      have v0 : 0 ≤ A1 * B2 + A2 * B1 := by grind
      generalize 2 * (P * R) = u at *
      generalize A1 * B2 + A2 * B1 = v at *
      clear e1 e2 e3 h1 h2 s0 s1
      rcases Classical.em (u = v) with q | q
      · grind
      · have d1 : 0 < u - v := by grind
        have d2 : 0 < u + v := by grind
        have e6 := Rat.mul_pos d1 d2
        grind
  grind
theorem hR_cs {n : Nat} {w p q : Nat → Rat} (hw : ∀ i, i < n → 0 < w i) : hR n (fun i => p i * q i) * hR n (fun i => p i * q i) ≤ hR n (fun i => 1 / w i * (p i * p i)) * hR n (fun i => w i * (q i * q i)) := by
  induction n with
  | zero => show (0 : Rat) * 0 ≤ 0 * 0; grind
  | succ n ih =>
    have i1 := ih (fun i hi => hw i (by omega))
    have w0 := hw n (by omega)
    have iv0 := rinv_pos w0
    rw [hR_last, hR_last, hR_last]
    refine hk_cs2 (hR_nn (fun i hi => ?_)) ?_ (hR_nn (fun i hi => ?_)) ?_ i1 ?_
    · have := rinv_pos (hw i (by omega))
      have e : 1 / w i = (w i)⁻¹ := by grind
      rw [e]
      exact Rat.mul_nonneg (by grind) (rsq _)
    · have e : 1 / w n = (w n)⁻¹ := by grind
      rw [e]
      exact Rat.mul_nonneg (by grind) (rsq _)
    · have := hw i (by omega)
      exact Rat.mul_nonneg (by grind) (rsq _)
    · exact Rat.mul_nonneg (by grind) (rsq _)
    · have : 1 / w n * (p n * p n) * (w n * (q n * q n)) = p n * q n * (p n * q n) := by grind
      rw [this]
      grind
def hpR (f : Nat → Rat) : Nat → Rat
  | 0 => 1
  | n + 1 => hpR f n * f n
theorem hpR_nn {f : Nat → Rat} {n : Nat} (h : ∀ i, i < n → 0 < f i) : 0 < hpR f n := by
  induction n with
  | zero => show (0 : Rat) < 1; decide
  | succ n ih => exact Rat.mul_pos (ih (fun i hi => h i (by omega))) (h n (by omega))
def hkx (eu ev : Nat → Nat) (f : Nat → Rat) (c : Nat) : Rat := f (eu c) + f (ev c)
/-- the form at the nodes -/
def hkN (eu ev : Nat → Nat) (f : Nat → Rat) (b : Rat) (k : Nat) : Nat → Nat → Rat := fun u v => (if u = v then 1 / (f u + b) else 0) + hR k (fun c => 1 / hkx eu ev f c * hksv eu ev u c * hksv eu ev v c)
theorem hkN_sy (eu ev : Nat → Nat) (f : Nat → Rat) (b : Rat) (k : Nat) : hky (hkN eu ev f b k) := fun u v => by
  unfold hkN
  have e1 : hR k (fun c => 1 / hkx eu ev f c * hksv eu ev u c * hksv eu ev v c) = hR k (fun c => 1 / hkx eu ev f c * hksv eu ev v c * hksv eu ev u c) := hR_congr (fun c _ => by grind)
  rw [e1]
  by_cases q : u = v
  · rw [q]
  · rw [if_neg q, if_neg (Ne.symm q)]
theorem hkN_s (eu ev : Nat → Nat) (f : Nat → Rat) (b : Rat) (k : Nat) : hkN eu ev f b (k + 1) = hkA (hkN eu ev f b k) (1 / hkx eu ev f k) (fun v => hksv eu ev v k) := by
  funext u v
  unfold hkN hkA
  rw [hR_last]
  grind
theorem hkN_val {eu ev : Nat → Nat} {f : Nat → Rat} {b : Rat} {k : Nat} (h : Nat → Rat) : hkQ 9 (hkN eu ev f b k) h = hR 9 (fun v => 1 / (f v + b) * (h v * h v)) + hR k (fun c => 1 / hkx eu ev f c * (hR 9 (fun v => hksv eu ev v c * h v) * hR 9 (fun v => hksv eu ev v c * h v))) := by
  have e1 : ∀ u, u < 9 → hR 9 (fun v => hkN eu ev f b k u v * h u * h v) = 1 / (f u + b) * (h u * h u) + hR k (fun c => 1 / hkx eu ev f c * (hksv eu ev u c * h u * hR 9 (fun v => hksv eu ev v c * h v))) := fun u hu => by
    have t : hR 9 (fun v => hkN eu ev f b k u v * h u * h v) = hR 9 (fun v => (if u = v then 1 / (f u + b) else 0) * h u * h v + hR k (fun c => 1 / hkx eu ev f c * hksv eu ev u c * hksv eu ev v c) * h u * h v) := hR_congr (fun v _ => by unfold hkN; grind)
    rw [t, hR_add, hR_one (c := u) hu (fun v _ hne => by rw [if_neg (Ne.symm hne)]; grind), if_pos rfl]
    have t2 : hR 9 (fun v => hR k (fun c => 1 / hkx eu ev f c * hksv eu ev u c * hksv eu ev v c) * h u * h v) = hR k (fun c => 1 / hkx eu ev f c * (hksv eu ev u c * h u * hR 9 (fun v => hksv eu ev v c * h v))) := by
      have t3 : ∀ v, hR k (fun c => 1 / hkx eu ev f c * hksv eu ev u c * hksv eu ev v c) * h u * h v = hR k (fun c => 1 / hkx eu ev f c * (hksv eu ev u c * h u * (hksv eu ev v c * h v))) := fun v => by
        have : hR k (fun c => 1 / hkx eu ev f c * hksv eu ev u c * hksv eu ev v c) * h u * h v = (h u * h v) * hR k (fun c => 1 / hkx eu ev f c * hksv eu ev u c * hksv eu ev v c) := by grind
        rw [this, ← hR_mul]
        exact hR_congr (fun v _ => by grind)
      rw [hR_congr (fun v _ => t3 v), hR_swap]
      refine hR_congr (fun c _ => ?_)
      rw [← hR_mul, ← hR_mul]
    rw [t2]
    grind
  unfold hkQ
  rw [hR_congr e1, hR_add]
  have e2 : hR 9 (fun u => hR k (fun c => 1 / hkx eu ev f c * (hksv eu ev u c * h u * hR 9 (fun v => hksv eu ev v c * h v)))) = hR k (fun c => 1 / hkx eu ev f c * (hR 9 (fun v => hksv eu ev v c * h v) * hR 9 (fun v => hksv eu ev v c * h v))) := by
    rw [hR_swap]
    refine hR_congr (fun c _ => ?_)
    rw [hR_mul]
    have : hR 9 (fun u => hksv eu ev u c * h u * hR 9 (fun v => hksv eu ev v c * h v)) = hR 9 (fun v => hksv eu ev v c * h v) * hR 9 (fun v => hksv eu ev v c * h v) := by
      rw [← hR_mul]; exact hR_congr (fun u _ => by grind)
    rw [this]
  rw [e2]
theorem rdiv1 {a : Rat} (h : 0 < a) : 0 < 1 / a := by
  have := rinv_pos h
  have e : 1 / a = a⁻¹ := by grind
  rw [e]; exact this
theorem hkN_P {eu ev : Nat → Nat} {f : Nat → Rat} {b : Rat} {k : Nat} (ha : ∀ v, v < 9 → 0 < f v + b) (hx : ∀ c, c < k → 0 < hkx eu ev f c) : hkP 9 (hkN eu ev f b k) := by
  refine hkP_of (hkN_sy eu ev f b k) (fun h ⟨i, hi, hi2⟩ => ?_)
  rw [hkN_val]
  have e1 := hR_lea (n := 9) (f := fun v => 1 / (f v + b) * (h v * h v)) (fun v hv => Rat.mul_nonneg (by have := rdiv1 (ha v hv); grind) (rsq _)) hi
  have e2 := hR_nn (n := k) (f := fun c => 1 / hkx eu ev f c * (hR 9 (fun v => hksv eu ev v c * h v) * hR 9 (fun v => hksv eu ev v c * h v))) (fun c hc => Rat.mul_nonneg (by have := rdiv1 (hx c hc); grind) (rsq _))
  have e3 := Rat.mul_pos (rdiv1 (ha i hi)) (rsq_pos hi2)
  grind
theorem hkNQ_v0 {eu ev : Nat → Nat} {f : Nat → Rat} {b : Rat} {m : Nat} (z : Nat → Rat) : hkQ m (hkNQ eu ev f b (fun _ _ => 0)) z = hR m (fun c => hkx eu ev f c * (z c * z c)) + hR 9 (fun v => (f v + b) * (hR m (fun c => hksv eu ev v c * z c) * hR m (fun c => hksv eu ev v c * z c))) := by
  rw [hkNQ_val]
  have : hR m (fun c => hR m (fun d => (if c ≠ d ∧ eu c = eu d ∧ ev c = ev d then -(0 : Rat) else 0) * z c * z d)) = 0 := hR_0 (fun c _ => hR_0 (fun d _ => by split <;> grind))
  rw [this]
  unfold hkx
  grind
theorem hkNQ_P {eu ev : Nat → Nat} {f : Nat → Rat} {b : Rat} {k : Nat} (ha : ∀ v, v < 9 → 0 < f v + b) (hx : ∀ c, c < k → 0 < hkx eu ev f c) : hkP k (hkNQ eu ev f b (fun _ _ => 0)) := by
  refine hkP_of (hkNQ_sy eu ev f b _) (fun z ⟨i, hi, hi2⟩ => ?_)
  rw [hkNQ_v0]
  have e1 := hR_lea (n := k) (f := fun c => hkx eu ev f c * (z c * z c)) (fun c hc => Rat.mul_nonneg (by have := hx c hc; grind) (rsq _)) hi
  have e2 := hR_nn (n := 9) (f := fun v => (f v + b) * (hR k (fun c => hksv eu ev v c * z c) * hR k (fun c => hksv eu ev v c * z c))) (fun v hv => Rat.mul_nonneg (by have := ha v hv; grind) (rsq _))
  have e3 := Rat.mul_pos (hx i hi) (rsq_pos hi2)
  grind
theorem hk_ND {eu ev : Nat → Nat} {f : Nat → Rat} {b : Rat} (ha : ∀ v, v < 9 → 0 < f v + b) : ∀ k, (∀ c, c < k → 0 < hkx eu ev f c) → hpR (hkx eu ev f) k * hkD 9 (hkN eu ev f b k) ≤ hkD k (hkNQ eu ev f b (fun _ _ => 0)) * hkD 9 (hkN eu ev f b 0) := by
  intro k
  induction k with
  | zero => intro _; show (1 : Rat) * _ ≤ 1 * _; grind
  | succ k ih =>
    intro hx
    have i1 := ih (fun c hc => hx c (by omega))
    have xk := hx k (by omega)
    have PQ := hkNQ_P ha hx
    have PN := hkN_P (b := b) ha (fun c hc => hx c (by omega) : ∀ c, c < k → 0 < hkx eu ev f c)
    obtain ⟨z, z1, z2⟩ := hkL_ex (hkNQ_sy eu ev f b _) PQ
    rw [hkNQ_v0, hR_last, z1] at z2
    generalize hB1 : hR 9 (fun v => (f v + b) * (hR (k + 1) (fun c => hksv eu ev v c * z c) * hR (k + 1) (fun c => hksv eu ev v c * z c))) = B1 at z2
    generalize hB2 : hR k (fun c => hkx eu ev f c * (z c * z c)) = B2 at z2
    have nB1 : 0 ≤ B1 := by rw [← hB1]; exact hR_nn (fun v hv => Rat.mul_nonneg (by have := ha v hv; grind) (rsq _))
    have nB2 : 0 ≤ B2 := by rw [← hB2]; exact hR_nn (fun c hc => Rat.mul_nonneg (by have := hx c (by omega); grind) (rsq _))
    have up := hkU_le (t := 1 / hkx eu ev f k) (ρ := B1 + B2) (l := fun v => hksv eu ev v k) (hkN_sy eu ev f b k) PN (rdiv1 xk) (by grind) (fun h => by
      rw [hkN_val]
      have c1 := hR_cs (n := 9) (w := fun v => f v + b) (p := h) (q := fun v => hR (k + 1) (fun c => hksv eu ev v c * z c)) ha
      have c2 := hR_cs (n := k) (w := fun c => hkx eu ev f c) (p := fun c => hR 9 (fun v => hksv eu ev v c * h v)) (q := fun c => (-1) * z c) (fun c hc => hx c (by omega))
      have m1 : hR k (fun c => hkx eu ev f c * ((-1) * z c * ((-1) * z c))) = B2 := by rw [← hB2]; exact hR_congr (fun c _ => by grind)
      rw [m1] at c2
      rw [hB1] at c1
      have tot : hR 9 (fun v => h v * hR (k + 1) (fun c => hksv eu ev v c * z c)) + hR k (fun c => hR 9 (fun v => hksv eu ev v c * h v) * ((-1) * z c)) = hR 9 (fun v => hksv eu ev v k * h v) := by
        have t1 : hR 9 (fun v => h v * hR (k + 1) (fun c => hksv eu ev v c * z c)) = hR k (fun c => z c * hR 9 (fun v => hksv eu ev v c * h v)) + hR 9 (fun v => hksv eu ev v k * h v) := by
          have t2 : hR 9 (fun v => h v * hR (k + 1) (fun c => hksv eu ev v c * z c)) = hR 9 (fun v => hR (k + 1) (fun c => z c * (hksv eu ev v c * h v))) := hR_congr (fun v _ => by rw [← hR_mul]; exact hR_congr (fun c _ => by grind))
          rw [t2, hR_swap, hR_last, z1]
          have t3 : hR k (fun c => hR 9 (fun v => z c * (hksv eu ev v c * h v))) = hR k (fun c => z c * hR 9 (fun v => hksv eu ev v c * h v)) := hR_congr (fun c _ => hR_mul _ _)
          have t4 : hR 9 (fun v => 1 * (hksv eu ev v k * h v)) = hR 9 (fun v => hksv eu ev v k * h v) := hR_congr (fun v _ => by grind)
          rw [t3, t4]
        have t5 : hR k (fun c => hR 9 (fun v => hksv eu ev v c * h v) * ((-1) * z c)) = (-1) * hR k (fun c => z c * hR 9 (fun v => hksv eu ev v c * h v)) := by
          rw [← hR_mul]; exact hR_congr (fun c _ => by grind)
        rw [t1, t5]
        grind
      have nA1 : 0 ≤ hR 9 (fun v => 1 / (f v + b) * (h v * h v)) := hR_nn (fun v hv => Rat.mul_nonneg (by have := rdiv1 (ha v hv); grind) (rsq _))
      have nA2 : 0 ≤ hR k (fun c => 1 / hkx eu ev f c * (hR 9 (fun v => hksv eu ev v c * h v) * hR 9 (fun v => hksv eu ev v c * h v))) := hR_nn (fun c hc => Rat.mul_nonneg (by have := rdiv1 (hx c (by omega)); grind) (rsq _))
      have fin := hk_cs2 nA1 nA2 nB1 nB2 c1 c2
      rw [tot] at fin
      have : (B1 + B2) * (hR 9 (fun v => 1 / (f v + b) * (h v * h v)) + hR k (fun c => 1 / hkx eu ev f c * (hR 9 (fun v => hksv eu ev v c * h v) * hR 9 (fun v => hksv eu ev v c * h v)))) = (hR 9 (fun v => 1 / (f v + b) * (h v * h v)) + hR k (fun c => 1 / hkx eu ev f c * (hR 9 (fun v => hksv eu ev v c * h v) * hR 9 (fun v => hksv eu ev v c * h v)))) * (B1 + B2) := by grind
      rw [this]
      exact fin)
    rw [← hkN_s] at up
    have eL : hkL k (hkNQ eu ev f b (fun _ _ => 0)) = B1 + B2 + hkx eu ev f k := by rw [← z2]; grind
    rw [hkD_last (n := k) (G := hkNQ eu ev f b (fun _ _ => 0)), eL]
    show hpR (hkx eu ev f) k * hkx eu ev f k * hkD 9 (hkN eu ev f b (k + 1)) ≤ _
    have p0 := hpR_nn (f := hkx eu ev f) (n := k) (fun c hc => hx c (by omega))
    have d0 := hkD_pos PN
    have s1 : hkx eu ev f k * hkD 9 (hkN eu ev f b (k + 1)) ≤ (B1 + B2 + hkx eu ev f k) * hkD 9 (hkN eu ev f b k) := by
      have m := Rat.mul_nonneg (a := hkx eu ev f k) (b := (1 + 1 / hkx eu ev f k * (B1 + B2)) * hkD 9 (hkN eu ev f b k) - hkD 9 (hkN eu ev f b (k + 1))) (by grind) (by grind)
      have e : hkx eu ev f k * ((1 + 1 / hkx eu ev f k * (B1 + B2)) * hkD 9 (hkN eu ev f b k)) = (B1 + B2 + hkx eu ev f k) * hkD 9 (hkN eu ev f b k) := by
        have x0 : hkx eu ev f k ≠ 0 := by grind
        generalize hkx eu ev f k = x at *
        generalize B1 + B2 = y at *
        generalize hkD 9 (hkN eu ev f b k) = D at *
        clear m up i1 z2 eL hB1 hB2 PQ hx
        grind
      rw [← e]
      generalize (1 + 1 / hkx eu ev f k * (B1 + B2)) * hkD 9 (hkN eu ev f b k) = A at *
      generalize hkD 9 (hkN eu ev f b (k + 1)) = B at *
      grind
    have s2 := Rat.mul_nonneg (a := hpR (hkx eu ev f) k) (b := (B1 + B2 + hkx eu ev f k) * hkD 9 (hkN eu ev f b k) - hkx eu ev f k * hkD 9 (hkN eu ev f b (k + 1))) (by grind) (by grind)
    have s3 := Rat.mul_nonneg (a := B1 + B2 + hkx eu ev f k) (b := hkD k (hkNQ eu ev f b (fun _ _ => 0)) * hkD 9 (hkN eu ev f b 0) - hpR (hkx eu ev f) k * hkD 9 (hkN eu ev f b k)) (by grind) (by grind)
    generalize hpR (hkx eu ev f) k = p at *
    generalize hkx eu ev f k = x at *
    generalize B1 + B2 + x = y at *
    generalize hkD 9 (hkN eu ev f b (k + 1)) = D1 at *
    generalize hkD 9 (hkN eu ev f b k) = D0 at *
    generalize hkD k (hkNQ eu ev f b (fun _ _ => 0)) = DQ at *
    generalize hkD 9 (hkN eu ev f b 0) = DN at *
    clear up i1 z2 eL hB1 hB2 PQ hx ih
    grind
