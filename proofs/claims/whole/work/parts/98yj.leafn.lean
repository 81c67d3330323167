/-! hk_leaf with natural numbers alone -/
def nS (f : Nat → Nat) : Nat → Nat
  | 0 => 0
  | n + 1 => nS f n + f n
def nP (f : Nat → Nat) : Nat → Nat
  | 0 => 1
  | n + 1 => nP f n * f n
theorem nS_q {f : Nat → Nat} {n : Nat} : ((nS f n : Nat) : Rat) = hR n (fun i => ((f i : Nat) : Rat)) := by
  induction n with
  | zero => rfl
  | succ n ih => rw [hR_last, ← ih, ← Rat.natCast_add]; rfl
theorem nP_q {f : Nat → Nat} {n : Nat} : ((nP f n : Nat) : Rat) = hpR (fun i => ((f i : Nat) : Rat)) n := by
  induction n with
  | zero => rfl
  | succ n ih =>
    show ((nP f n * f n : Nat) : Rat) = hpR (fun i => ((f i : Nat) : Rat)) n * ((f n : Nat) : Rat)
    rw [← ih, ← Rat.natCast_mul]
theorem hpR_congr {f g : Nat → Rat} {n : Nat} (h : ∀ i, i < n → f i = g i) : hpR f n = hpR g n := by
  induction n with
  | zero => rfl
  | succ n ih =>
    show hpR f n * f n = hpR g n * g n
    rw [ih (fun i hi => h i (by omega)), h n (by omega)]
/-- the degree of a node -/
def ndg (mu : Nat → Nat → Nat) (v : Nat) : Nat := nS (fun u => if u = v then 0 else mu u v) 9
theorem ndg_q {eu ev : Nat → Nat} (hO : ∀ c, c < 10 → eu c < 9 ∧ ev c < 9 ∧ eu c ≠ ev c) {v : Nat} (hv : v < 9) : hkdg eu ev v = ((ndg (hkmu eu ev 10) v : Nat) : Rat) := by
  unfold ndg
  rw [nS_q]
  have e : hR 9 (fun u => (((if u = v then 0 else hkmu eu ev 10 u v) : Nat) : Rat)) = hR 9 (fun u => hR 10 (fun c => if u = v then 0 else if (eu c = u ∧ ev c = v) ∨ (eu c = v ∧ ev c = u) then (1 : Rat) else 0)) := hR_congr (fun u _ => by
    by_cases q : u = v
    · rw [if_pos q, hR_0 (fun c _ => by rw [if_pos q])]; rfl
    · rw [if_neg q, ← hkmu_q]
      unfold hkMu
      exact hR_congr (fun c _ => by rw [if_neg q]))
  rw [e, hR_swap]
  unfold hkdg
  refine hR_congr (fun c hc => ?_)
  obtain ⟨o1, o2, o3⟩ := hO c hc
  by_cases q1 : eu c = v
  · rw [if_pos (Or.inl q1), hR_one (c := ev c) o2 (fun u _ hne => by
      by_cases q : u = v
      · rw [if_pos q]
      · rw [if_neg q, if_neg (fun g => g.elim (fun g => q (g.1.symm.trans q1)) (fun g => hne g.2.symm))]), if_neg (fun g => o3 (q1.trans g.symm)), if_pos (Or.inr ⟨q1, rfl⟩)]
  · by_cases q2 : ev c = v
    · rw [if_pos (Or.inr q2), hR_one (c := eu c) o1 (fun u _ hne => by
        by_cases q : u = v
        · rw [if_pos q]
        · rw [if_neg q, if_neg (fun g => g.elim (fun g => hne g.1.symm) (fun g => q (g.2.symm.trans q2)))]), if_neg q1, if_pos (Or.inl ⟨rfl, q2⟩)]
    · rw [if_neg (fun g => g.elim q1 q2), hR_0 (fun u _ => by
        by_cases q : u = v
        · rw [if_pos q]
        · rw [if_neg q, if_neg (fun g => g.elim (fun g => q2 g.2) (fun g => q1 g.1))])]
def nmx (mu : Nat → Nat → Nat) (f : Nat → Nat) (b : Nat) : Nat := nS (fun v => (f v + b) * (ndg mu v * ndg mu v) + f v * ndg mu v) 9
def nxx (mu : Nat → Nat → Nat) (f : Nat → Nat) : Nat := nP (fun u => nP (fun v => if u < v then (f u + f v) ^ mu u v else 1) 9) 9
theorem hk_leafN {eu ev f : Nat → Nat} {b K : Nat} {rows : List (List Nat)} (hO : ∀ c, c < 10 → eu c < 9 ∧ ev c < 9 ∧ eu c ≠ ev c) (hf : ∀ v, v < 9 → 0 < f v) (hK : 0 < K) (hH : zgH 9 rows) (hp : ∀ p, p ∈ zgE 9 rows → 0 < p) (h0 : ∀ v, v < 9 → 0 < zgR rows v)
    (hr : ∀ v, v < 9 → zgR rows v * (f v + b) ≤ K) (hk : ∀ u v, u < 9 → v < 9 → u ≠ v → zgK rows u v * (f u + f v) ≤ K * hkmu eu ev 10 u v)
    (fin : 400 * (2 * nS f 9 + 2 * b) ^ 9 * nmx (hkmu eu ev 10) f b * K ^ 9 * zgD (zgE 9 rows) < 387420489 * nxx (hkmu eu ev 10) f * nP (fun v => f v + b) 9 * zgN (zgE 9 rows)) : hkCE1 eu ev := by
  refine hk_leaf (f := fun v => ((f v : Nat) : Rat)) (b := ((b : Nat) : Rat)) (K := ((K : Nat) : Rat)) (rows := rows) hO (fun v hv => Rat.natCast_pos.mpr (hf v hv)) Rat.natCast_nonneg (Rat.natCast_pos.mpr hK) hH hp h0 (fun v hv => ?_) (fun u v hu hv hne => ?_) ?_
  · have := Rat.natCast_le_natCast.mpr (hr v hv)
    rw [Rat.natCast_mul, Rat.natCast_add] at this
    exact this
  · have := Rat.natCast_le_natCast.mpr (hk u v hu hv hne)
    rw [Rat.natCast_mul, Rat.natCast_add, Rat.natCast_mul] at this
    rw [hkmu_q]
    exact this
  · have e1 : hkmx eu ev (fun v => ((f v : Nat) : Rat)) ((b : Nat) : Rat) = ((nmx (hkmu eu ev 10) f b : Nat) : Rat) := by
      unfold hkmx nmx
      rw [nS_q]
      exact hR_congr (fun v hv => by rw [ndg_q hO hv, Rat.natCast_add, Rat.natCast_mul, Rat.natCast_mul, Rat.natCast_mul, Rat.natCast_add])
    have e2 : hpR (hkx eu ev (fun v => ((f v : Nat) : Rat))) 10 = ((nxx (hkmu eu ev 10) f : Nat) : Rat) := by
      have t := hk_prod (eu := eu) (ev := ev) (G := fun u v => ((f u : Nat) : Rat) + ((f v : Nat) : Rat)) (fun u v => by grind) 10 hO
      have t2 : hpR (hkx eu ev (fun v => ((f v : Nat) : Rat))) 10 = hpR (fun c => ((f (eu c) : Nat) : Rat) + ((f (ev c) : Nat) : Rat)) 10 := rfl
      rw [t2, t]
      unfold nxx
      rw [nP_q]
      refine hpR_congr (fun u _ => ?_)
      rw [nP_q]
      refine hpR_congr (fun v _ => ?_)
      by_cases q : u < v
      · rw [if_pos q, if_pos q, Rat.natCast_pow, Rat.natCast_add]
      · rw [if_neg q, if_neg q]; rfl
    have e3 : hpR (fun v => ((f v : Nat) : Rat) + ((b : Nat) : Rat)) 9 = ((nP (fun v => f v + b) 9 : Nat) : Rat) := by
      rw [nP_q]
      exact hpR_congr (fun v _ => by rw [Rat.natCast_add])
    have e4 : 2 * hR 9 (fun v => ((f v : Nat) : Rat)) + 2 * ((b : Nat) : Rat) = ((2 * nS f 9 + 2 * b : Nat) : Rat) := by
      rw [← nS_q, Rat.natCast_add, Rat.natCast_mul, Rat.natCast_mul]
      rfl
    rw [e1, e2, e3, e4]
    have := Rat.natCast_lt_natCast.mpr fin
    simp only [Rat.natCast_mul, Rat.natCast_pow] at this ⊢
    exact this
