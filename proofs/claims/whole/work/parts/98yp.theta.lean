/-! the pivots of a graph's form with th: parallel columns one after the other -/
def hkpp (eu ev : Nat → Nat) (k c : Nat) : Rat := if eu c = eu k ∧ ev c = ev k then 1 else 0
def hkj (eu ev : Nat → Nat) (k : Nat) : Rat := hR k (hkpp eu ev k)
def hkth (eu ev : Nat → Nat) (th : Nat → Nat → Rat) (k : Nat) : Rat := th (eu k) (ev k)
def hkdn (eu ev : Nat → Nat) (f : Nat → Rat) (th : Nat → Nat → Rat) (k : Nat) : Rat := hkx eu ev f k - (hkj eu ev k - 1) * hkth eu ev th k
def hkbe (eu ev : Nat → Nat) (f : Nat → Rat) (th : Nat → Nat → Rat) (k : Nat) : Rat := (hkx eu ev f k + hkth eu ev th k) * (hkx eu ev f k - hkj eu ev k * hkth eu ev th k) / hkdn eu ev f th k
def hksk (eu ev : Nat → Nat) (f : Nat → Rat) (th : Nat → Nat → Rat) (k : Nat) : Rat := (hkx eu ev f k + hkth eu ev th k) / hkdn eu ev f th k
def hkee (eu ev : Nat → Nat) (th : Nat → Nat → Rat) (c d : Nat) : Rat := if c ≠ d ∧ eu c = eu d ∧ ev c = ev d then -th (eu c) (ev c) else 0
def hkB (eu ev : Nat → Nat) (f : Nat → Rat) (th : Nat → Nat → Rat) (k : Nat) (z : Nat → Rat) : Rat := hR k (fun c => hkx eu ev f c * (z c * z c)) + hR k (fun c => hR k (fun d => hkee eu ev th c d * z c * z d))
theorem hkee_sy (eu ev : Nat → Nat) (th : Nat → Nat → Rat) (c d : Nat) : hkee eu ev th c d = hkee eu ev th d c := by
  unfold hkee
  by_cases p : c ≠ d ∧ eu c = eu d ∧ ev c = ev d
  · rw [if_pos p, if_pos ⟨Ne.symm p.1, p.2.1.symm, p.2.2.symm⟩, p.2.1, p.2.2]
  · rw [if_neg p, if_neg (fun g => p ⟨Ne.symm g.1, g.2.1.symm, g.2.2.symm⟩)]
theorem hk_bil {k : Nat} {e : Nat → Nat → Rat} (hs : ∀ c d, e c d = e d c) {z p : Nat → Rat} {μ : Rat} :
    hR k (fun c => hR k (fun d => e c d * (z c - μ * p c) * (z d - μ * p d))) = hR k (fun c => hR k (fun d => e c d * z c * z d)) - 2 * μ * hR k (fun c => p c * hR k (fun d => e c d * z d)) + μ * μ * hR k (fun c => p c * hR k (fun d => e c d * p d)) := by
  have t1 : hR k (fun c => hR k (fun d => e c d * (z c - μ * p c) * (z d - μ * p d))) = hR k (fun c => hR k (fun d => e c d * z c * z d) + ((-μ) * (p c * hR k (fun d => e c d * z d)) + ((-μ) * hR k (fun d => p d * (e d c * z c)) + μ * μ * (p c * hR k (fun d => e c d * p d))))) := hR_congr (fun c _ => by
    have t : hR k (fun d => e c d * (z c - μ * p c) * (z d - μ * p d)) = hR k (fun d => e c d * z c * z d + ((-μ * p c) * (e c d * z d) + ((-μ) * (p d * (e d c * z c)) + (μ * μ * p c) * (e c d * p d)))) := hR_congr (fun d _ => by rw [hs d c]; grind)
    rw [t, hR_add, hR_add, hR_add, hR_mul, hR_mul, hR_mul]
    grind)
  rw [t1, hR_add, hR_add, hR_add, hR_mul, hR_mul, hR_mul]
  have t2 : hR k (fun c => hR k (fun d => p d * (e d c * z c))) = hR k (fun c => p c * hR k (fun d => e c d * z d)) := by
    rw [hR_swap]
    exact hR_congr (fun d _ => hR_mul _ _)
  rw [t2]
  grind
theorem hkpp_sq (eu ev : Nat → Nat) (k c : Nat) : hkpp eu ev k c * hkpp eu ev k c = hkpp eu ev k c := by
  unfold hkpp; split <;> grind
theorem hkpp_e {eu ev : Nat → Nat} {th : Nat → Nat → Rat} {k c n : Nat} (hc : c < n) (w : Nat → Rat) : hkpp eu ev k c * hR n (fun d => hkee eu ev th c d * w d) = (-hkth eu ev th k) * (hkpp eu ev k c * (hR n (fun d => hkpp eu ev k d * w d) - w c)) := by
  by_cases q : eu c = eu k ∧ ev c = ev k
  · have e1 : hkpp eu ev k c = 1 := if_pos q
    have e2 : hR n (fun d => hkee eu ev th c d * w d) = hR n (fun d => (-hkth eu ev th k) * (hkpp eu ev k d * w d) + (hkth eu ev th k) * (if d = c then w c else 0)) := hR_congr (fun d _ => by
      unfold hkee hkpp hkth
      rw [q.1, q.2]
      by_cases g : d = c
      · rw [if_neg (fun x => x.1 g.symm), if_pos g, g, if_pos q]; grind
      · by_cases p : eu d = eu k ∧ ev d = ev k
        · rw [if_pos ⟨Ne.symm g, p.1.symm, p.2.symm⟩, if_neg g, if_pos p]; grind
        · rw [if_neg (fun x => p ⟨x.2.1.symm, x.2.2.symm⟩), if_neg g, if_neg p]; grind)
    rw [e1, e2, hR_add, hR_mul, hR_mul, hR_one (c := c) (f := fun d => if d = c then w c else 0) hc (fun d _ hne => by rw [if_neg hne]), if_pos rfl]
    grind
  · have e1 : hkpp eu ev k c = 0 := if_neg q
    rw [e1]; grind
theorem hkpp_x {eu ev : Nat → Nat} {f : Nat → Rat} {k c : Nat} : hkx eu ev f c * hkpp eu ev k c = hkx eu ev f k * hkpp eu ev k c := by
  unfold hkpp hkx
  by_cases q : eu c = eu k ∧ ev c = ev k
  · rw [if_pos q, q.1, q.2]
  · rw [if_neg q]; grind
theorem hkB_s {eu ev : Nat → Nat} {f : Nat → Rat} {th : Nat → Nat → Rat} {k : Nat} (hd : hkdn eu ev f th k ≠ 0) (z : Nat → Rat) :
    hkB eu ev f th (k + 1) z = hkB eu ev f th k (fun c => z c - (hkth eu ev th k / hkdn eu ev f th k * z k) * hkpp eu ev k c) + hkbe eu ev f th k * (z k * z k) := by
  generalize hμ : hkth eu ev th k / hkdn eu ev f th k * z k = μ
  -- the left side
  have l1 : hkB eu ev f th (k + 1) z = hkB eu ev f th k z + hkx eu ev f k * (z k * z k) - 2 * (hkth eu ev th k * z k * hR k (fun d => hkpp eu ev k d * z d)) := by
    unfold hkB
    rw [hR_last, hR_last]
    have a1 : ∀ c, hR (k + 1) (fun d => hkee eu ev th c d * z c * z d) = hR k (fun d => hkee eu ev th c d * z c * z d) + hkee eu ev th c k * z c * z k := fun c => hR_last _
    rw [hR_congr (fun c _ => a1 c), a1 k, hR_add]
    have kk : hkee eu ev th k k = 0 := if_neg (fun g => g.1 rfl)
    have a2 : hR k (fun c => hkee eu ev th c k * z c * z k) = (-hkth eu ev th k * z k) * hR k (fun d => hkpp eu ev k d * z d) := by
      rw [← hR_mul]
      refine hR_congr (fun c hc => ?_)
      unfold hkee hkpp hkth
      by_cases q : eu c = eu k ∧ ev c = ev k
      · rw [if_pos ⟨by omega, q.1, q.2⟩, if_pos q, q.1, q.2]; grind
      · rw [if_neg (fun g => q g.2), if_neg q]; grind
    have a3 : hR k (fun d => hkee eu ev th k d * z k * z d) = hR k (fun c => hkee eu ev th c k * z c * z k) := hR_congr (fun c _ => by rw [hkee_sy]; grind)
    rw [a3, a2, kk]
    grind
  have r1 : hR k (fun c => hkx eu ev f c * ((z c - μ * hkpp eu ev k c) * (z c - μ * hkpp eu ev k c))) = hR k (fun c => hkx eu ev f c * (z c * z c)) + ((-2 * μ * hkx eu ev f k) * hR k (fun d => hkpp eu ev k d * z d) + (μ * μ * hkx eu ev f k) * hkj eu ev k) := by
    unfold hkj
    rw [← hR_mul, ← hR_mul, ← hR_add, ← hR_add]
    refine hR_congr (fun c _ => ?_)
    have e1 := hkpp_sq eu ev k c
    have e2 := hkpp_x (eu := eu) (ev := ev) (f := f) (k := k) (c := c)
    generalize hkpp eu ev k c = p at *
    generalize hkx eu ev f c = x at *
    generalize hkx eu ev f k = X at *
    have : x * ((z c - μ * p) * (z c - μ * p)) = x * (z c * z c) - 2 * μ * (x * p) * z c + μ * μ * (x * (p * p)) := by grind
    rw [this, e1, e2]
    grind
  have r2 : hR k (fun c => hkpp eu ev k c * hR k (fun d => hkee eu ev th c d * z d)) = (-hkth eu ev th k) * (hkj eu ev k * hR k (fun d => hkpp eu ev k d * z d) - hR k (fun d => hkpp eu ev k d * z d)) := by
    rw [hR_congr (fun c hc => hkpp_e hc z), hR_mul]
    have : hR k (fun c => hkpp eu ev k c * (hR k (fun d => hkpp eu ev k d * z d) - z c)) = hR k (fun c => hR k (fun d => hkpp eu ev k d * z d) * hkpp eu ev k c + (-1) * (hkpp eu ev k c * z c)) := hR_congr (fun c _ => by grind)
    rw [this, hR_add, hR_mul, hR_mul]
    show _ * (hR k (fun d => hkpp eu ev k d * z d) * hkj eu ev k + _) = _
    grind
  have r3 : hR k (fun c => hkpp eu ev k c * hR k (fun d => hkee eu ev th c d * hkpp eu ev k d)) = (-hkth eu ev th k) * (hkj eu ev k * hkj eu ev k - hkj eu ev k) := by
    rw [hR_congr (fun c hc => hkpp_e hc (hkpp eu ev k)), hR_mul]
    have e0 : hR k (fun d => hkpp eu ev k d * hkpp eu ev k d) = hkj eu ev k := by
      unfold hkj
      exact hR_congr (fun d _ => hkpp_sq eu ev k d)
    have : hR k (fun c => hkpp eu ev k c * (hR k (fun d => hkpp eu ev k d * hkpp eu ev k d) - hkpp eu ev k c)) = hR k (fun c => hkj eu ev k * hkpp eu ev k c + (-1) * hkpp eu ev k c) := hR_congr (fun c _ => by
      rw [e0]
      have := hkpp_sq eu ev k c
      grind)
    rw [this, hR_add, hR_mul, hR_mul]
    show _ * (hkj eu ev k * hkj eu ev k + (-1) * hkj eu ev k) = _
    grind
  rw [l1]
  unfold hkB
  rw [r1, hk_bil (hkee_sy eu ev th), r2, r3]
  have dd : hkdn eu ev f th k = hkx eu ev f k - (hkj eu ev k - 1) * hkth eu ev th k := rfl
  have μ1 : μ * hkdn eu ev f th k = hkth eu ev th k * z k := by rw [← hμ]; grind
  have b1 : hkbe eu ev f th k * hkdn eu ev f th k = (hkx eu ev f k + hkth eu ev th k) * (hkx eu ev f k - hkj eu ev k * hkth eu ev th k) := by unfold hkbe; grind
  generalize hR k (fun c => hkx eu ev f c * (z c * z c)) = X0 at *
  generalize hR k (fun c => hR k (fun d => hkee eu ev th c d * z c * z d)) = E0 at *
  generalize hR k (fun d => hkpp eu ev k d * z d) = S at *
  generalize hkbe eu ev f th k = β at *
  generalize hkdn eu ev f th k = D at *
  generalize hkj eu ev k = j at *
  generalize hkth eu ev th k = θ at *
  generalize hkx eu ev f k = x at *
  generalize z k = y at *
  clear r1 r2 r3 l1 hμ
  -- beta + j th^2 / D = x
  have k1 : β + j * (θ / D * θ) = x := by
    have : (β + j * (θ / D * θ)) * D = x * D := by
      have : (β + j * (θ / D * θ)) * D = β * D + j * θ * θ := by grind
      rw [this, b1, dd]
      grind
    have h2 : β + j * (θ / D * θ) = (β + j * (θ / D * θ)) * D / D := by grind
    rw [h2, this]
    grind
  have k2 : μ = θ / D * y := by
    have : μ = μ * D / D := by grind
    rw [this, μ1]
    grind
  have k3 : θ / D * D = θ := by grind
  rw [k2]
  generalize θ / D = l at *
  clear μ1 b1 k2
  have k4 : x * l - θ * l * (j - 1) = θ := by rw [dd] at k3; grind
  have k5 : x = β + j * (l * θ) := k1.symm
  have k6 : 2 * (l * y) * S * x - 2 * (l * y) * (θ * (j * S - S)) = 2 * y * S * (x * l - θ * l * (j - 1)) := by grind
  have k7 : (l * y) * (l * y) * x * j - (l * y) * (l * y) * (θ * (j * j - j)) = y * y * l * j * (x * l - θ * l * (j - 1)) := by grind
  rw [k4] at k6 k7
  clear dd k3 k4 hd
  grind
theorem hkB_q {eu ev : Nat → Nat} {f : Nat → Rat} {th : Nat → Nat → Rat} {k : Nat} (hd : hkdn eu ev f th k ≠ 0) {q : Nat → Rat} (hq : ∀ c, eu c = eu k → ev c = ev k → q c = q k) (z : Nat → Rat) :
    hR (k + 1) (fun c => q c * z c) = hR k (fun c => q c * (z c - (hkth eu ev th k / hkdn eu ev f th k * z k) * hkpp eu ev k c)) + hksk eu ev f th k * (q k * z k) := by
  have e1 : hR k (fun c => q c * (z c - (hkth eu ev th k / hkdn eu ev f th k * z k) * hkpp eu ev k c)) = hR k (fun c => q c * z c) + (-(hkth eu ev th k / hkdn eu ev f th k * z k) * q k) * hkj eu ev k := by
    unfold hkj
    rw [← hR_mul, ← hR_add]
    refine hR_congr (fun c _ => ?_)
    unfold hkpp
    by_cases g : eu c = eu k ∧ ev c = ev k
    · rw [if_pos g, hq c g.1 g.2]; grind
    · rw [if_neg g]; grind
  rw [hR_last, e1]
  have dd : hkdn eu ev f th k = hkx eu ev f k - (hkj eu ev k - 1) * hkth eu ev th k := rfl
  have s1 : hksk eu ev f th k = 1 + hkj eu ev k * (hkth eu ev th k / hkdn eu ev f th k) := by
    unfold hksk
    generalize hkdn eu ev f th k = D at *
    generalize hkj eu ev k = j at *
    generalize hkth eu ev th k = θ at *
    generalize hkx eu ev f k = x at *
    have : x + θ = D + j * θ := by rw [dd]; grind
    rw [this]
    clear this dd e1
    grind
  rw [s1]
  generalize hkth eu ev th k / hkdn eu ev f th k = l
  grind
/-- what the numbers must keep -/
def hkok (eu ev : Nat → Nat) (f : Nat → Rat) (th : Nat → Nat → Rat) (k : Nat) : Prop := 0 < hkx eu ev f k + hkth eu ev th k ∧ 0 < hkx eu ev f k - hkj eu ev k * hkth eu ev th k ∧ 0 < hkdn eu ev f th k
def hktt (eu ev : Nat → Nat) (f : Nat → Rat) (th : Nat → Nat → Rat) (k : Nat) : Rat := hksk eu ev f th k * hksk eu ev f th k / hkbe eu ev f th k
theorem rdivp {a b : Rat} (ha : 0 < a) (hb : 0 < b) : 0 < a / b := by
  have e : a / b = a * b⁻¹ := by grind
  rw [e]; exact Rat.mul_pos ha (rinv_pos hb)
theorem hkbe_pos {eu ev : Nat → Nat} {f : Nat → Rat} {th : Nat → Nat → Rat} {k : Nat} (h : hkok eu ev f th k) : 0 < hkbe eu ev f th k := rdivp (Rat.mul_pos h.1 h.2.1) h.2.2
theorem hksk_pos {eu ev : Nat → Nat} {f : Nat → Rat} {th : Nat → Nat → Rat} {k : Nat} (h : hkok eu ev f th k) : 0 < hksk eu ev f th k := rdivp h.1 h.2.2
theorem hktt_pos {eu ev : Nat → Nat} {f : Nat → Rat} {th : Nat → Nat → Rat} {k : Nat} (h : hkok eu ev f th k) : 0 < hktt eu ev f th k := rdivp (Rat.mul_pos (hksk_pos h) (hksk_pos h)) (hkbe_pos h)
theorem hkB_cs {eu ev : Nat → Nat} {f : Nat → Rat} {th : Nat → Nat → Rat} {q : Nat → Rat} (hq : ∀ c d, eu c = eu d → ev c = ev d → q c = q d) : ∀ k, (∀ c, c < k → hkok eu ev f th c) → ∀ z : Nat → Rat, 0 ≤ hkB eu ev f th k z ∧ hR k (fun c => q c * z c) * hR k (fun c => q c * z c) ≤ hR k (fun c => hktt eu ev f th c * (q c * q c)) * hkB eu ev f th k z := by
  intro k
  induction k with
  | zero => intro _ z; exact ⟨by show (0 : Rat) ≤ 0 + 0; grind, by show (0 : Rat) * 0 ≤ 0 * (0 + 0); grind⟩
  | succ k ih =>
    intro h z
    have hk := h k (by omega)
    have dn := hk.2.2
    have bp := hkbe_pos hk
    have i1 := ih (fun c hc => h c (by omega)) (fun c => z c - (hkth eu ev th k / hkdn eu ev f th k * z k) * hkpp eu ev k c)
    have n2 := Rat.mul_nonneg (a := hkbe eu ev f th k) (by grind) (rsq (z k))
    have n3 := Rat.mul_nonneg (a := hktt eu ev f th k) (by have := hktt_pos hk; grind) (rsq (q k))
    have n4 : 0 ≤ hR k (fun c => hktt eu ev f th c * (q c * q c)) := hR_nn (fun c hc => Rat.mul_nonneg (by have := hktt_pos (h c (by omega)); grind) (rsq _))
    have dne : hkdn eu ev f th k ≠ 0 := by grind
    rw [hkB_s dne z, hkB_q dne (q := q) (fun c e1 e2 => hq c k e1 e2) z, hR_last]
    refine ⟨by have := i1.1; grind, hk_cs2 n4 n3 i1.1 n2 i1.2 ?_⟩
    have e : hktt eu ev f th k * hkbe eu ev f th k = hksk eu ev f th k * hksk eu ev f th k := by unfold hktt; grind
    have e2 : hktt eu ev f th k * (q k * q k) * (hkbe eu ev f th k * (z k * z k)) = (hktt eu ev f th k * hkbe eu ev f th k) * (q k * z k * (q k * z k)) := by grind
    rw [e2, e]
    grind
theorem hkB_pd {eu ev : Nat → Nat} {f : Nat → Rat} {th : Nat → Nat → Rat} : ∀ k, (∀ c, c < k → hkok eu ev f th c) → ∀ z : Nat → Rat, (∃ i, i < k ∧ z i ≠ 0) → 0 < hkB eu ev f th k z := by
  intro k
  induction k with
  | zero => rintro _ z ⟨i, hi, _⟩; omega
  | succ k ih =>
    rintro h z ⟨i, hi, hz⟩
    have hk := h k (by omega)
    have dn := hk.2.2
    have bp := hkbe_pos hk
    have dne : hkdn eu ev f th k ≠ 0 := by grind
    rw [hkB_s dne z]
    rcases Classical.em (z k = 0) with e | e
    · have ne : i ≠ k := fun g => hz (by rw [g, e])
      have i1 := ih (fun c hc => h c (by omega)) (fun c => z c - (hkth eu ev th k / hkdn eu ev f th k * z k) * hkpp eu ev k c) ⟨i, by omega, by
        show z i - (hkth eu ev th k / hkdn eu ev f th k * z k) * hkpp eu ev k i ≠ 0
        rw [e]
        intro g
        apply hz
        grind⟩
      rw [e] at i1 ⊢
      grind
    · have p := Rat.mul_pos bp (rsq_pos e)
      have i1 := (hkB_cs (q := fun _ => 0) (f := f) (th := th) (eu := eu) (ev := ev) (fun _ _ _ _ => rfl) k (fun c hc => h c (by omega)) (fun c => z c - (hkth eu ev th k / hkdn eu ev f th k * z k) * hkpp eu ev k c)).1
      grind
/-- the form at the nodes, with numbers t at the columns -/
def hkNt (eu ev : Nat → Nat) (f : Nat → Rat) (b : Rat) (τ : Nat → Rat) (k : Nat) : Nat → Nat → Rat := fun u v => (if u = v then 1 / (f u + b) else 0) + hR k (fun c => τ c * hksv eu ev u c * hksv eu ev v c)
theorem hkNt_sy (eu ev : Nat → Nat) (f : Nat → Rat) (b : Rat) (τ : Nat → Rat) (k : Nat) : hky (hkNt eu ev f b τ k) := fun u v => by
  unfold hkNt
  have e1 : hR k (fun c => τ c * hksv eu ev u c * hksv eu ev v c) = hR k (fun c => τ c * hksv eu ev v c * hksv eu ev u c) := hR_congr (fun c _ => by grind)
  rw [e1]
  by_cases q : u = v
  · rw [q]
  · rw [if_neg q, if_neg (Ne.symm q)]
theorem hkNt_s (eu ev : Nat → Nat) (f : Nat → Rat) (b : Rat) (τ : Nat → Rat) (k : Nat) : hkNt eu ev f b τ (k + 1) = hkA (hkNt eu ev f b τ k) (τ k) (fun v => hksv eu ev v k) := by
  funext u v
  unfold hkNt hkA
  rw [hR_last]
  grind
theorem hkNt_val {eu ev : Nat → Nat} {f : Nat → Rat} {b : Rat} {τ : Nat → Rat} {k : Nat} (h : Nat → Rat) : hkQ 9 (hkNt eu ev f b τ k) h = hR 9 (fun v => 1 / (f v + b) * (h v * h v)) + hR k (fun c => τ c * (hR 9 (fun v => hksv eu ev v c * h v) * hR 9 (fun v => hksv eu ev v c * h v))) := by
  have e1 : ∀ u, u < 9 → hR 9 (fun v => hkNt eu ev f b τ k u v * h u * h v) = 1 / (f u + b) * (h u * h u) + hR k (fun c => τ c * (hksv eu ev u c * h u * hR 9 (fun v => hksv eu ev v c * h v))) := fun u hu => by
    have t : hR 9 (fun v => hkNt eu ev f b τ k u v * h u * h v) = hR 9 (fun v => (if u = v then 1 / (f u + b) else 0) * h u * h v + hR k (fun c => τ c * hksv eu ev u c * hksv eu ev v c) * h u * h v) := hR_congr (fun v _ => by unfold hkNt; grind)
    rw [t, hR_add, hR_one (c := u) hu (fun v _ hne => by rw [if_neg (Ne.symm hne)]; grind), if_pos rfl]
    have t2 : hR 9 (fun v => hR k (fun c => τ c * hksv eu ev u c * hksv eu ev v c) * h u * h v) = hR k (fun c => τ c * (hksv eu ev u c * h u * hR 9 (fun v => hksv eu ev v c * h v))) := by
      have t3 : ∀ v, hR k (fun c => τ c * hksv eu ev u c * hksv eu ev v c) * h u * h v = hR k (fun c => τ c * (hksv eu ev u c * h u * (hksv eu ev v c * h v))) := fun v => by
        have : hR k (fun c => τ c * hksv eu ev u c * hksv eu ev v c) * h u * h v = (h u * h v) * hR k (fun c => τ c * hksv eu ev u c * hksv eu ev v c) := by grind
        rw [this, ← hR_mul]
        exact hR_congr (fun v _ => by grind)
      rw [hR_congr (fun v _ => t3 v), hR_swap]
      refine hR_congr (fun c _ => ?_)
      rw [← hR_mul, ← hR_mul]
    rw [t2]
    grind
  unfold hkQ
  rw [hR_congr e1, hR_add]
  have e2 : hR 9 (fun u => hR k (fun c => τ c * (hksv eu ev u c * h u * hR 9 (fun v => hksv eu ev v c * h v)))) = hR k (fun c => τ c * (hR 9 (fun v => hksv eu ev v c * h v) * hR 9 (fun v => hksv eu ev v c * h v))) := by
    rw [hR_swap]
    refine hR_congr (fun c _ => ?_)
    rw [hR_mul]
    have : hR 9 (fun u => hksv eu ev u c * h u * hR 9 (fun v => hksv eu ev v c * h v)) = hR 9 (fun v => hksv eu ev v c * h v) * hR 9 (fun v => hksv eu ev v c * h v) := by
      rw [← hR_mul]; exact hR_congr (fun u _ => by grind)
    rw [this]
  rw [e2]
theorem hkNt_P {eu ev : Nat → Nat} {f : Nat → Rat} {b : Rat} {τ : Nat → Rat} {k : Nat} (ha : ∀ v, v < 9 → 0 < f v + b) (hx : ∀ c, c < k → 0 < τ c) : hkP 9 (hkNt eu ev f b τ k) := by
  refine hkP_of (hkNt_sy eu ev f b τ k) (fun h ⟨i, hi, hi2⟩ => ?_)
  rw [hkNt_val]
  have e1 := hR_lea (n := 9) (f := fun v => 1 / (f v + b) * (h v * h v)) (fun v hv => Rat.mul_nonneg (by have := rdiv1 (ha v hv); grind) (rsq _)) hi
  have e2 := hR_nn (n := k) (f := fun c => τ c * (hR 9 (fun v => hksv eu ev v c * h v) * hR 9 (fun v => hksv eu ev v c * h v))) (fun c hc => Rat.mul_nonneg (by have := hx c hc; grind) (rsq _))
  have e3 := Rat.mul_pos (rdiv1 (ha i hi)) (rsq_pos hi2)
  grind
theorem hkNQ_vt {eu ev : Nat → Nat} {f : Nat → Rat} {b : Rat} {th : Nat → Nat → Rat} {m : Nat} (z : Nat → Rat) : hkQ m (hkNQ eu ev f b th) z = hkB eu ev f th m z + hR 9 (fun v => (f v + b) * (hR m (fun c => hksv eu ev v c * z c) * hR m (fun c => hksv eu ev v c * z c))) := by
  rw [hkNQ_val]
  unfold hkB hkx hkee
  grind
theorem hkNQ_Pt {eu ev : Nat → Nat} {f : Nat → Rat} {b : Rat} {th : Nat → Nat → Rat} {k : Nat} (ha : ∀ v, v < 9 → 0 < f v + b) (hx : ∀ c, c < k → hkok eu ev f th c) : hkP k (hkNQ eu ev f b th) := by
  refine hkP_of (hkNQ_sy eu ev f b _) (fun z hz => ?_)
  rw [hkNQ_vt]
  have e1 := hkB_pd k hx z hz
  have e2 := hR_nn (n := 9) (f := fun v => (f v + b) * (hR k (fun c => hksv eu ev v c * z c) * hR k (fun c => hksv eu ev v c * z c))) (fun v hv => Rat.mul_nonneg (by have := ha v hv; grind) (rsq _))
  grind
theorem hk_NDt {eu ev : Nat → Nat} {f : Nat → Rat} {b : Rat} {th : Nat → Nat → Rat} (ha : ∀ v, v < 9 → 0 < f v + b) : ∀ k, (∀ c, c < k → hkok eu ev f th c) → hpR (hkbe eu ev f th) k * hkD 9 (hkNt eu ev f b (hktt eu ev f th) k) ≤ hkD k (hkNQ eu ev f b th) * hkD 9 (hkNt eu ev f b (hktt eu ev f th) 0) := by
  intro k
  induction k with
  | zero => intro _; show (1 : Rat) * _ ≤ 1 * _; grind
  | succ k ih =>
    intro hx
    have i1 := ih (fun c hc => hx c (by omega))
    have hk := hx k (by omega)
    have dn := hk.2.2
    have bp := hkbe_pos hk
    have sp := hksk_pos hk
    have PQ := hkNQ_Pt (b := b) ha hx
    have PN := hkNt_P (eu := eu) (ev := ev) (f := f) (b := b) (τ := hktt eu ev f th) (k := k) ha (fun c hc => hktt_pos (hx c (by omega)))
    obtain ⟨z, z1, z2⟩ := hkL_ex (hkNQ_sy eu ev f b _) PQ
    have dne : hkdn eu ev f th k ≠ 0 := by grind
    rw [hkNQ_vt, hkB_s dne z, z1] at z2
    generalize hB1 : hR 9 (fun v => (f v + b) * (hR (k + 1) (fun c => hksv eu ev v c * z c) * hR (k + 1) (fun c => hksv eu ev v c * z c))) = B1 at z2
    generalize hY : (fun c => z c - hkth eu ev th k / hkdn eu ev f th k * 1 * hkpp eu ev k c) = Y at z2
    have hY2 : (fun c => z c - hkth eu ev th k / hkdn eu ev f th k * z k * hkpp eu ev k c) = Y := by rw [z1]; exact hY
    generalize hB2 : hkB eu ev f th k Y = B2 at z2
    have nB1 : 0 ≤ B1 := by rw [← hB1]; exact hR_nn (fun v hv => Rat.mul_nonneg (by have := ha v hv; grind) (rsq _))
    have nB2 : 0 ≤ B2 := by rw [← hB2]; exact (hkB_cs (q := fun _ => 0) (fun _ _ _ _ => rfl) k (fun c hc => hx c (by omega)) Y).1
    have up := hkU_le (t := 1 / hkbe eu ev f th k) (ρ := B1 + B2) (l := fun v => hksk eu ev f th k * hksv eu ev v k) (hkNt_sy eu ev f b _ k) PN (rdiv1 bp) (by grind) (fun h => by
      rw [hkNt_val]
      have c1 := hR_cs (n := 9) (w := fun v => f v + b) (p := h) (q := fun v => hR (k + 1) (fun c => hksv eu ev v c * z c)) ha
      have qc : ∀ c d, eu c = eu d → ev c = ev d → (fun c => -hR 9 (fun v => hksv eu ev v c * h v)) c = (fun c => -hR 9 (fun v => hksv eu ev v c * h v)) d := fun c d e1 e2 => by
        show -hR 9 (fun v => hksv eu ev v c * h v) = -hR 9 (fun v => hksv eu ev v d * h v)
        unfold hksv
        rw [e1, e2]
      have c2 := (hkB_cs (f := f) (th := th) qc k (fun c hc => hx c (by omega)) Y).2
      have m1 : hR k (fun c => hktt eu ev f th c * ((-hR 9 (fun v => hksv eu ev v c * h v)) * (-hR 9 (fun v => hksv eu ev v c * h v)))) = hR k (fun c => hktt eu ev f th c * (hR 9 (fun v => hksv eu ev v c * h v) * hR 9 (fun v => hksv eu ev v c * h v))) := hR_congr (fun c _ => by grind)
      rw [hB2] at c2
      have c2' : hR k (fun c => -hR 9 (fun v => hksv eu ev v c * h v) * Y c) * hR k (fun c => -hR 9 (fun v => hksv eu ev v c * h v) * Y c) ≤ hR k (fun c => hktt eu ev f th c * (hR 9 (fun v => hksv eu ev v c * h v) * hR 9 (fun v => hksv eu ev v c * h v))) * B2 := by rw [← m1]; exact c2
      rw [hB1] at c1
      have sumq := hkB_q dne (q := fun c => -hR 9 (fun v => hksv eu ev v c * h v)) (fun c e1 e2 => qc c k e1 e2) z
      have sumq' : hR (k + 1) (fun c => -hR 9 (fun v => hksv eu ev v c * h v) * z c) = hR k (fun c => -hR 9 (fun v => hksv eu ev v c * h v) * Y c) + hksk eu ev f th k * (-hR 9 (fun v => hksv eu ev v k * h v) * z k) := by rw [← hY2]; exact sumq
      have t1 : hR 9 (fun v => h v * hR (k + 1) (fun c => hksv eu ev v c * z c)) = -hR (k + 1) (fun c => -hR 9 (fun v => hksv eu ev v c * h v) * z c) := by
        have t2 : hR 9 (fun v => h v * hR (k + 1) (fun c => hksv eu ev v c * z c)) = hR 9 (fun v => hR (k + 1) (fun c => z c * (hksv eu ev v c * h v))) := hR_congr (fun v _ => by rw [← hR_mul]; exact hR_congr (fun c _ => by grind))
        rw [t2, hR_swap]
        have t3 : hR (k + 1) (fun c => hR 9 (fun v => z c * (hksv eu ev v c * h v))) = hR (k + 1) (fun c => (-1) * (-hR 9 (fun v => hksv eu ev v c * h v) * z c)) := hR_congr (fun c _ => by rw [hR_mul]; grind)
        rw [t3, hR_mul]
        grind
      have tot : hR 9 (fun v => h v * hR (k + 1) (fun c => hksv eu ev v c * z c)) + hR k (fun c => -hR 9 (fun v => hksv eu ev v c * h v) * Y c) = hR 9 (fun v => hksk eu ev f th k * hksv eu ev v k * h v) := by
        have t4 : hR 9 (fun v => hksk eu ev f th k * hksv eu ev v k * h v) = hksk eu ev f th k * hR 9 (fun v => hksv eu ev v k * h v) := by
          rw [← hR_mul]; exact hR_congr (fun v _ => by grind)
        rw [t1, sumq', t4, z1]
        grind
      have nA1 : 0 ≤ hR 9 (fun v => 1 / (f v + b) * (h v * h v)) := hR_nn (fun v hv => Rat.mul_nonneg (by have := rdiv1 (ha v hv); grind) (rsq _))
      have nA2 : 0 ≤ hR k (fun c => hktt eu ev f th c * (hR 9 (fun v => hksv eu ev v c * h v) * hR 9 (fun v => hksv eu ev v c * h v))) := hR_nn (fun c hc => Rat.mul_nonneg (by have := hktt_pos (hx c (by omega)); grind) (rsq _))
      have fin := hk_cs2 nA1 nA2 nB1 nB2 c1 c2'
      rw [tot] at fin
      generalize hR 9 (fun v => 1 / (f v + b) * (h v * h v)) + hR k (fun c => hktt eu ev f th c * (hR 9 (fun v => hksv eu ev v c * h v) * hR 9 (fun v => hksv eu ev v c * h v))) = U at *
      have : (B1 + B2) * U = U * (B1 + B2) := by grind
      rw [this]
      exact fin)
    have eN : hkNt eu ev f b (hktt eu ev f th) (k + 1) = hkA (hkNt eu ev f b (hktt eu ev f th) k) (1 / hkbe eu ev f th k) (fun v => hksk eu ev f th k * hksv eu ev v k) := by
      rw [hkNt_s]
      funext u v
      unfold hkA hktt
      generalize hksk eu ev f th k = s at *
      generalize hkbe eu ev f th k = β at *
      grind
    rw [← eN] at up
    have eL : hkL k (hkNQ eu ev f b th) = B1 + B2 + hkbe eu ev f th k := by rw [← z2]; grind
    rw [hkD_last (n := k) (G := hkNQ eu ev f b th), eL]
    show hpR (hkbe eu ev f th) k * hkbe eu ev f th k * hkD 9 (hkNt eu ev f b (hktt eu ev f th) (k + 1)) ≤ _
    have p0 := hpR_nn (f := hkbe eu ev f th) (n := k) (fun c hc => hkbe_pos (hx c (by omega)))
    have d0 := hkD_pos PN
    have s1 : hkbe eu ev f th k * hkD 9 (hkNt eu ev f b (hktt eu ev f th) (k + 1)) ≤ (B1 + B2 + hkbe eu ev f th k) * hkD 9 (hkNt eu ev f b (hktt eu ev f th) k) := by
      have m := Rat.mul_nonneg (a := hkbe eu ev f th k) (b := (1 + 1 / hkbe eu ev f th k * (B1 + B2)) * hkD 9 (hkNt eu ev f b (hktt eu ev f th) k) - hkD 9 (hkNt eu ev f b (hktt eu ev f th) (k + 1))) (by grind) (by grind)
      have e : hkbe eu ev f th k * ((1 + 1 / hkbe eu ev f th k * (B1 + B2)) * hkD 9 (hkNt eu ev f b (hktt eu ev f th) k)) = (B1 + B2 + hkbe eu ev f th k) * hkD 9 (hkNt eu ev f b (hktt eu ev f th) k) := by
        have x0 : hkbe eu ev f th k ≠ 0 := by grind
        generalize hkbe eu ev f th k = x at *
        generalize B1 + B2 = y at *
        generalize hkD 9 (hkNt eu ev f b (hktt eu ev f th) k) = D at *
        clear m up i1 z2 eL hB1 hB2 PQ hx eN hY hY2
        grind
      rw [← e]
      generalize (1 + 1 / hkbe eu ev f th k * (B1 + B2)) * hkD 9 (hkNt eu ev f b (hktt eu ev f th) k) = A at *
      generalize hkD 9 (hkNt eu ev f b (hktt eu ev f th) (k + 1)) = B at *
      grind
    have s2 := Rat.mul_nonneg (a := hpR (hkbe eu ev f th) k) (b := (B1 + B2 + hkbe eu ev f th k) * hkD 9 (hkNt eu ev f b (hktt eu ev f th) k) - hkbe eu ev f th k * hkD 9 (hkNt eu ev f b (hktt eu ev f th) (k + 1))) (by grind) (by grind)
    have s3 := Rat.mul_nonneg (a := B1 + B2 + hkbe eu ev f th k) (b := hkD k (hkNQ eu ev f b th) * hkD 9 (hkNt eu ev f b (hktt eu ev f th) 0) - hpR (hkbe eu ev f th) k * hkD 9 (hkNt eu ev f b (hktt eu ev f th) k)) (by grind) (by grind)
    generalize hpR (hkbe eu ev f th) k = p at *
    generalize hkD 9 (hkNt eu ev f b (hktt eu ev f th) (k + 1)) = D1 at *
    generalize hkD 9 (hkNt eu ev f b (hktt eu ev f th) k) = D0 at *
    generalize hkD k (hkNQ eu ev f b th) = DQ at *
    generalize hkD 9 (hkNt eu ev f b (hktt eu ev f th) 0) = DN at *
    generalize hkbe eu ev f th k = x at *
    generalize B1 + B2 + x = y at *
    clear up i1 z2 eL hB1 hB2 PQ hx ih eN hY hY2
    grind
