/-! Caratheodory, and the bound for any number of rows -/
theorem hk_step {m k : Nat} {cc : Nat → Rat} {v : Nat → Nat → Int} {l : Nat → Rat} (hl : ∀ i, i < k + 1 → 0 ≤ l i) (hc : ∀ i, i < k + 1 → hR m (fun c => cc c * hkqi v i c) ≤ -1) (hn : ¬ hkI (k + 1) m v) :
    ∃ a l2, a < k + 1 ∧ l2 a = 0 ∧ (∀ i, i < k + 1 → 0 ≤ l2 i) ∧ (∀ c, c < m → hR (k + 1) (fun i => l2 i * hkqi v i c) = hR (k + 1) (fun i => l i * hkqi v i c)) ∧ hR (k + 1) l ≤ hR (k + 1) l2 := by
  have y0 : ∃ y : Nat → Rat, (∀ c, c < m → hR (k + 1) (fun i => y i * hkqi v i c) = 0) ∧ (∃ i, i < k + 1 ∧ y i ≠ 0) ∧ 0 ≤ hR (k + 1) y := by
    refine Classical.byContradiction fun no => hn (fun z hz i hi => Classical.byContradiction fun zi => ?_)
    rcases Rat.le_total (a := 0) (b := hR (k + 1) z) with g | g
    · exact no ⟨z, hz, ⟨i, hi, zi⟩, g⟩
    · refine no ⟨fun i => (-1) * z i, fun c hc => ?_, ⟨i, hi, by grind⟩, by rw [hR_mul]; grind⟩
      have : hR (k + 1) (fun i => (-1) * z i * hkqi v i c) = (-1) * hR (k + 1) (fun i => z i * hkqi v i c) := by
        rw [← hR_mul]; exact hR_congr (fun i _ => by grind)
      rw [this, hz c hc]; grind
  obtain ⟨y, y1, ⟨j, j1, j2⟩, y3⟩ := y0
  have ng : ∃ i, i < k + 1 ∧ y i < 0 := Classical.byContradiction fun no => by
    have nn : ∀ i, i < k + 1 → 0 ≤ y i := fun i hi => by
      rcases Rat.le_total (a := 0) (b := y i) with g | g
      · exact g
      · rcases Classical.em (y i < 0) with q | q
        · exact absurd ⟨i, hi, q⟩ no
        · grind
    have s1 : hR (k + 1) (fun i => y i * hR m (fun c => cc c * hkqi v i c)) = 0 := by
      rw [hR_congr (g := fun i => hR m (fun c => cc c * (y i * hkqi v i c))) (fun i _ => by rw [← hR_mul]; exact hR_congr (fun c _ => by grind)), hR_swap]
      exact hR_0 (fun c hc => by rw [hR_mul, y1 c hc]; grind)
    have s2 := hR_le (n := k + 1) (f := fun i => y i * hR m (fun c => cc c * hkqi v i c)) (g := fun i => (-1) * y i) (fun i hi => by
      have := Rat.mul_nonneg (nn i hi) (b := -1 - hR m (fun c => cc c * hkqi v i c)) (by have := hc i hi; grind)
      show y i * hR m (fun c => cc c * hkqi v i c) ≤ (-1) * y i
      generalize hR m (fun c => cc c * hkqi v i c) = S at *
      grind)
    rw [s1, hR_mul] at s2
    exact j2 (hR_nn0 nn (by grind) j j1)
  obtain ⟨a, a1, a2, a3⟩ := hk_least (fun i => y i < 0) (fun i => l i / (-y i)) ng
  have la := hl a a1
  have iv := rinv_pos (a := -y a) (by grind)
  have s0 : 0 ≤ l a / (-y a) := by
    have := Rat.mul_nonneg la (b := (-y a)⁻¹) (by grind)
    have e : l a / (-y a) = l a * (-y a)⁻¹ := by grind
    rw [e]; exact this
  refine ⟨a, fun i => l i + (l a / (-y a)) * y i, a1, ?_, fun i hi => ?_, fun c hc => ?_, ?_⟩
  · show l a + l a / (-y a) * y a = 0
    generalize e : -y a = w at *
    have : y a = -w := by grind
    rw [this]
    have : w ≠ 0 := by grind
    grind
  · have li := hl i hi
    rcases Classical.em (y i < 0) with q | q
    · have e := a3 i hi q
      have e2 := Rat.mul_nonneg (a := -y i) (b := l i / (-y i) - l a / (-y a)) (by grind) (by grind)
      have e3 : -y i * (l i / (-y i) - l a / (-y a)) = l i + (l a / (-y a)) * y i := by
        generalize l a / (-y a) = s at *
        generalize e : -y i = w at *
        have h1 : y i = -w := by grind
        have h2 : w ≠ 0 := by grind
        rw [h1]
        grind
      rw [e3] at e2
      exact e2
    · have := Rat.mul_nonneg s0 (b := y i) (by grind)
      show 0 ≤ l i + (l a / (-y a)) * y i
      grind
  · have : hR (k + 1) (fun i => (l i + (l a / (-y a)) * y i) * hkqi v i c) = hR (k + 1) (fun i => l i * hkqi v i c) + (l a / (-y a)) * hR (k + 1) (fun i => y i * hkqi v i c) := by
      rw [← hR_mul, ← hR_add]
      exact hR_congr (fun i _ => by grind)
    show hR (k + 1) (fun i => (l i + (l a / (-y a)) * y i) * hkqi v i c) = _
    rw [this, y1 c hc]
    grind
  · rw [hR_add, hR_mul]
    have := Rat.mul_nonneg s0 y3
    grind
theorem hk_car {m : Nat} {cc : Nat → Rat} : ∀ (k : Nat) (v : Nat → Nat → Int) (l : Nat → Rat), (∀ i, i < k → 0 ≤ l i) → (∀ i, i < k → hR m (fun c => cc c * hkqi v i c) ≤ -1) →
    ∃ k' v' l', hkI k' m v' ∧ (∀ i, i < k' → 0 ≤ l' i) ∧ (∀ i, i < k' → ∃ j, j < k ∧ v' i = v j) ∧ (∀ c, c < m → hR k' (fun i => l' i * hkqi v' i c) = hR k (fun i => l i * hkqi v i c)) ∧ hR k l ≤ hR k' l' := by
  intro k
  induction k with
  | zero => intro v l _ _; exact ⟨0, v, l, fun z _ i hi => by omega, fun i hi => by omega, fun i hi => by omega, fun c _ => rfl, by show (0 : Rat) ≤ 0; grind⟩
  | succ k ih =>
    intro v l hl hc
    by_cases h : hkI (k + 1) m v
    · exact ⟨k + 1, v, l, h, hl, fun i hi => ⟨i, hi, rfl⟩, fun c _ => rfl, by grind⟩
    · obtain ⟨a, l2, a1, a2, a3, a4, a5⟩ := hk_step hl hc h
      obtain ⟨k', v', l', b1, b2, b3, b4, b5⟩ := ih (fun i => if i < a then v i else v (i + 1)) (fun i => if i < a then l2 i else l2 (i + 1)) (fun i hi => by
        show 0 ≤ if i < a then l2 i else l2 (i + 1)
        by_cases q : i < a
        · rw [if_pos q]; exact a3 i (by omega)
        · rw [if_neg q]; exact a3 (i + 1) (by omega)) (fun i hi => by
        have e : hkqi (fun i => if i < a then v i else v (i + 1)) i = if i < a then hkqi v i else hkqi v (i + 1) := funext fun c => by
          show (((if i < a then v i else v (i + 1)) c : Int) : Rat) = _
          by_cases q : i < a
          · rw [if_pos q, if_pos q]; rfl
          · rw [if_neg q, if_neg q]; rfl
        rw [e]
        by_cases q : i < a
        · rw [if_pos q]; exact hc i (by omega)
        · rw [if_neg q]; exact hc (i + 1) (by omega))
      refine ⟨k', v', l', b1, b2, fun i hi => ?_, fun c hc => ?_, ?_⟩
      · obtain ⟨j, j1, j2⟩ := b3 i hi
        by_cases q : j < a
        · exact ⟨j, by omega, by rw [j2, if_pos q]⟩
        · exact ⟨j + 1, by omega, by rw [j2, if_neg q]⟩
      · rw [b4 c hc, ← a4 c hc, hR_rem (a := a) (fun i => l2 i * hkqi v i c) a1, a2]
        have : hR k (fun i => (if i < a then l2 i else l2 (i + 1)) * hkqi (fun i => if i < a then v i else v (i + 1)) i c) = hR k (fun i => if i < a then l2 i * hkqi v i c else l2 (i + 1) * hkqi v (i + 1) c) := hR_congr (fun i _ => by
          show (if i < a then l2 i else l2 (i + 1)) * (((if i < a then v i else v (i + 1)) c : Int) : Rat) = _
          by_cases q : i < a
          · rw [if_pos q, if_pos q, if_pos q]; rfl
          · rw [if_neg q, if_neg q, if_neg q]; rfl)
        rw [this]
        grind
      · have e := hR_rem (a := a) l2 a1
        rw [a2] at e
        grind
theorem hR_pad {k : Nat} (f : Nat → Rat) : ∀ d, hR (k + d) (fun i => if i < k then f i else 0) = hR k f := fun d => by
  induction d with
  | zero => exact hR_congr (fun i hi => by rw [if_pos (by omega)])
  | succ d ih => rw [← Nat.add_assoc, hR_last, ih, if_neg (by omega)]; grind
theorem hR_ones {n : Nat} : hR n (fun _ => 1) = ((n : Int) : Rat) := by
  induction n with
  | zero => rfl
  | succ n ih =>
    rw [hR_last, ih]
    have : ((n + 1 : Nat) : Int) = (n : Int) + 1 := by omega
    rw [this, Rat.intCast_add]
    rfl
theorem hkQ_congr {m : Nat} {Q : Nat → Nat → Rat} {x y : Nat → Rat} (h : ∀ c, c < m → x c = y c) : hkQ m Q x = hkQ m Q y := hR_congr (fun c hc => hR_congr (fun d hd => by rw [h c hc, h d hd]))
theorem hk_fin {m N : Nat} {Q : Nat → Nat → Rat} {t g : Rat} {cc : Nat → Rat} {v : Nat → Nat → Int} {r : Nat → Rat} (hs : hky Q) (h : hkP m Q) (ht : 0 < t) (hU : ∀ c, c < m → hkQ m Q (hkqi (fun _ => hkU c) 0) ≤ g)
    (hv : ∀ j, j < N → hkQ m Q (hkqi v j) ≤ g) (hc : ∀ j, j < N → hR m (fun c => cc c * hkqi v j c) ≤ -1) (hr : ∀ j, j < N → 1 ≤ r j) :
    t * hkD m Q * (((N : Int) : Rat) * ((N : Int) : Rat)) ≤ (g + t) ^ m * hkQ m Q (fun c => hR N (fun j => r j * hkqi v j c)) := by
  obtain ⟨k, w, l, a1, a2, a3, a4, a5⟩ := hk_car (cc := cc) N v r (fun j hj => by have := hr j hj; grind) hc
  have km := hkI_le a1
  obtain ⟨B, b1, b2, b3⟩ := hk_ext (m - k) k w (by omega) a1
  have e := hk_bound (z := fun i => if i < k then l i else 0) (g := g) hs h b1 ht (fun i hi => by
    by_cases q : i < k
    · obtain ⟨j, j1, j2⟩ := a3 i q
      have : hkqi B i = hkqi v j := funext fun c => by show ((B i c : Int) : Rat) = ((v j c : Int) : Rat); rw [b2 i q, j2]
      rw [this]
      exact hv j j1
    · obtain ⟨c, c1, c2⟩ := b3 i (by omega) hi
      have : hkqi B i = hkqi (fun _ => hkU c) 0 := funext fun d => by show ((B i d : Int) : Rat) = ((hkU c d : Int) : Rat); rw [c2]
      rw [this]
      exact hU c c1)
  have s1 : hR m (fun i => if i < k then l i else 0) = hR k l := by
    have := hR_pad (k := k) l (m - k)
    rw [show k + (m - k) = m from by omega] at this
    exact this
  have s2 : hkQ m Q (fun c => hR m (fun i => (if i < k then l i else 0) * hkqi B i c)) = hkQ m Q (fun c => hR N (fun j => r j * hkqi v j c)) := hkQ_congr (fun c hc => by
    show hR m (fun i => (if i < k then l i else 0) * hkqi B i c) = hR N (fun j => r j * hkqi v j c)
    rw [← a4 c hc]
    have := hR_pad (k := k) (fun i => l i * hkqi w i c) (m - k)
    rw [show k + (m - k) = m from by omega] at this
    rw [← this]
    exact hR_congr (fun i _ => by
      by_cases q : i < k
      · rw [if_pos q, if_pos q]; show l i * ((B i c : Int) : Rat) = l i * ((w i c : Int) : Rat); rw [b2 i q]
      · rw [if_neg q, if_neg q]; grind))
  rw [s1, s2] at e
  have s3 : ((N : Int) : Rat) ≤ hR k l := by
    have := hR_le (n := N) (f := fun _ => 1) (g := r) hr
    rw [hR_ones] at this
    grind
  have s4 : (0 : Rat) ≤ ((N : Int) : Rat) := by
    have := Rat.intCast_le_intCast.mpr (show (0 : Int) ≤ (N : Int) by omega)
    exact this
  have s5 := rmul_le s3 s3 s4 (by grind)
  have p := hkD_pos h
  have s6 := Rat.mul_nonneg (a := t * hkD m Q) (b := hR k l * hR k l - ((N : Int) : Rat) * ((N : Int) : Rat)) (Rat.mul_nonneg (by grind) (by grind)) (by grind)
  generalize hkQ m Q (fun c => hR N (fun j => r j * hkqi v j c)) = F at *
  generalize (g + t) ^ m = E at *
  generalize hR k l * hR k l = Z at *
  generalize ((N : Int) : Rat) * ((N : Int) : Rat) = Y at *
  generalize hkD m Q = D at *
  grind
