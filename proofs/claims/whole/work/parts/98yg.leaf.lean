/-! a graph's form out of natural numbers -/
theorem hkL_dg {n : Nat} : ∀ {G : Nat → Nat → Rat}, (∀ u v, u ≠ v → G u v = 0) → hkL n G = G n n := by
  induction n with
  | zero => intro G _; rfl
  | succ n ih =>
    intro G h
    have e : ∀ i j, hkS G i j = G (i + 1) (j + 1) := fun i j => by
      show G (i + 1) (j + 1) - G (i + 1) 0 * G 0 (j + 1) / G 0 0 = _
      rw [h (i + 1) 0 (by omega)]
      grind
    show hkL n (hkS G) = G (n + 1) (n + 1)
    rw [ih (fun u v hne => by rw [e]; exact h _ _ (by omega)), e]
theorem hkD_dg {n : Nat} {G : Nat → Nat → Rat} (h : ∀ u v, u ≠ v → G u v = 0) : hkD n G = hpR (fun u => G u u) n := by
  induction n with
  | zero => rfl
  | succ n ih => rw [hkD_last, ih, hkL_dg h]; rfl
theorem hpR_inv {f : Nat → Rat} {n : Nat} (h : ∀ i, i < n → f i ≠ 0) : hpR (fun u => 1 / f u) n * hpR f n = 1 := by
  induction n with
  | zero => show (1 : Rat) * 1 = 1; grind
  | succ n ih =>
    have i1 := ih (fun i hi => h i (by omega))
    have f0 := h n (by omega)
    show hpR (fun u => 1 / f u) n * (1 / f n) * (hpR f n * f n) = 1
    generalize hpR (fun u => 1 / f u) n = A at *
    generalize hpR f n = B at *
    generalize f n = x at *
    have : A * (1 / x) * (B * x) = (A * B) * ((1 / x) * x) := by grind
    rw [this, i1]
    grind
theorem hkQ_sc {n : Nat} {G : Nat → Nat → Rat} {s : Rat} (z : Nat → Rat) : hkQ n (fun i j => s * G i j) z = s * hkQ n G z := by
  unfold hkQ
  rw [← hR_mul]
  refine hR_congr (fun i _ => ?_)
  rw [← hR_mul]
  exact hR_congr (fun j _ => by grind)
/-- how many columns lie between two nodes -/
def hkMu (eu ev : Nat → Nat) (u v : Nat) : Rat := hR 10 (fun c => if (eu c = u ∧ ev c = v) ∨ (eu c = v ∧ ev c = u) then 1 else 0)
theorem hkMu_sum {eu ev : Nat → Nat} {T : Nat → Nat → Rat} (hO : ∀ c, c < 10 → eu c < 9 ∧ ev c < 9 ∧ eu c ≠ ev c) (hT : ∀ u v, T u v = T v u) : hR 9 (fun u => hR 9 (fun v => if v = u then 0 else hkMu eu ev u v * T u v)) = 2 * hR 10 (fun c => T (eu c) (ev c)) := by
  have e1 : hR 9 (fun u => hR 9 (fun v => if v = u then 0 else hkMu eu ev u v * T u v)) = hR 10 (fun c => hR 9 (fun u => hR 9 (fun v => if v = u then 0 else (if (eu c = u ∧ ev c = v) ∨ (eu c = v ∧ ev c = u) then 1 else 0) * T u v))) := by
    have t : ∀ u v, (if v = u then 0 else hkMu eu ev u v * T u v) = hR 10 (fun c => if v = u then 0 else (if (eu c = u ∧ ev c = v) ∨ (eu c = v ∧ ev c = u) then 1 else 0) * T u v) := fun u v => by
      by_cases q : v = u
      · rw [if_pos q, hR_0 (fun c _ => by rw [if_pos q])]
      · rw [if_neg q]
        have : hkMu eu ev u v * T u v = T u v * hkMu eu ev u v := by grind
        rw [this]
        unfold hkMu
        rw [← hR_mul]
        exact hR_congr (fun c _ => by rw [if_neg q]; grind)
    rw [hR_congr (fun u _ => hR_congr (fun v _ => t u v)), hR_congr (fun u _ => hR_swap _), hR_swap]
  rw [e1, ← hR_mul]
  refine hR_congr (fun c hc => ?_)
  obtain ⟨a1, a2, a3⟩ := hO c hc
  have at1 : ∀ u, u < 9 → u ≠ eu c → u ≠ ev c → hR 9 (fun v => if v = u then 0 else (if (eu c = u ∧ ev c = v) ∨ (eu c = v ∧ ev c = u) then 1 else 0) * T u v) = 0 := fun u _ n1 n2 => hR_0 (fun v _ => by
    by_cases q : v = u
    · rw [if_pos q]
    · rw [if_neg q, if_neg (fun g => g.elim (fun g => n1 g.1.symm) (fun g => n2 g.2.symm))]; grind)
  rw [hR_two (c := eu c) (d := ev c) a1 a2 a3 at1]
  have v1 : hR 9 (fun v => if v = eu c then 0 else (if (eu c = eu c ∧ ev c = v) ∨ (eu c = v ∧ ev c = eu c) then 1 else 0) * T (eu c) v) = T (eu c) (ev c) := by
    rw [hR_one (c := ev c) a2 (fun v _ hne => by
      by_cases q : v = eu c
      · rw [if_pos q]
      · rw [if_neg q, if_neg (fun g => g.elim (fun g => hne g.2.symm) (fun g => q g.1.symm))]; grind), if_neg (Ne.symm a3), if_pos (Or.inl ⟨rfl, rfl⟩)]
    grind
  have v2 : hR 9 (fun v => if v = ev c then 0 else (if (eu c = ev c ∧ ev c = v) ∨ (eu c = v ∧ ev c = ev c) then 1 else 0) * T (ev c) v) = T (eu c) (ev c) := by
    rw [hR_one (c := eu c) a1 (fun v _ hne => by
      by_cases q : v = ev c
      · rw [if_pos q]
      · rw [if_neg q, if_neg (fun g => g.elim (fun g => q g.2.symm) (fun g => hne g.1.symm))]; grind), if_neg a3, if_pos (Or.inr ⟨rfl, rfl⟩), hT (ev c) (eu c)]
    grind
  rw [v1, v2]
  grind
/-- the nodes' form is not below what the rows say -/
theorem hkN_rows {eu ev : Nat → Nat} {f : Nat → Rat} {b K : Rat} {rows : List (List Nat)} (hO : ∀ c, c < 10 → eu c < 9 ∧ ev c < 9 ∧ eu c ≠ ev c) (ha : ∀ v, v < 9 → 0 < f v + b) (hx : ∀ u v, u < 9 → v < 9 → u ≠ v → 0 < f u + f v) (hK : 0 < K)
    (hr : ∀ v, v < 9 → ((zgR rows v : Nat) : Rat) * (f v + b) ≤ K) (hk : ∀ u v, u < 9 → v < 9 → u ≠ v → ((zgK rows u v : Nat) : Rat) * (f u + f v) ≤ K * hkMu eu ev u v) (z : Nat → Rat) :
    hkQ 9 (fun i j => 1 / K * zgL 9 rows i j) z ≤ hkQ 9 (hkN eu ev f b 10) z := by
  have ks : ∀ u v, ((zgK rows u v : Nat) : Rat) = ((zgK rows v u : Nat) : Rat) := fun u v => by
    have : zgK rows u v = zgK rows v u := by
      unfold zgK
      by_cases a : u < v
      · rw [if_pos a, if_neg (by omega), if_pos a]
      · by_cases c : v < u
        · rw [if_neg a, if_pos c, if_pos c]
        · rw [if_neg a, if_neg c, if_neg c, if_neg a]
    rw [this]
  have iK := rdiv1 hK
  have q1 := hkLp_Q (n := 9) (r := fun u => ((zgR rows u : Nat) : Rat)) (k := fun u v => ((zgK rows u v : Nat) : Rat)) ks z
  have q2 := hkN_val (eu := eu) (ev := ev) (f := f) (b := b) (k := 10) z
  have wh : ∀ c, c < 10 → hR 9 (fun v => hksv eu ev v c * z v) = z (ev c) - z (eu c) := fun c hc => by
    obtain ⟨a1, a2, a3⟩ := hO c hc
    rw [hR_two (c := eu c) (d := ev c) a1 a2 a3 (fun v _ n1 n2 => by
      unfold hksv iv
      rw [if_neg (Ne.symm n1), if_neg (Ne.symm n2)]
      have : (((0 - 0 : Int)) : Rat) = 0 := rfl
      rw [this]; grind)]
    unfold hksv iv
    rw [if_pos rfl, if_neg (Ne.symm a3), if_pos rfl, if_neg a3]
    have e1 : (((0 - 1 : Int)) : Rat) = -1 := rfl
    have e2 : (((1 - 0 : Int)) : Rat) = 1 := rfl
    rw [e1, e2]
    grind
  have q3 : hR 10 (fun c => 1 / hkx eu ev f c * (hR 9 (fun v => hksv eu ev v c * z v) * hR 9 (fun v => hksv eu ev v c * z v))) = hR 10 (fun c => 1 / (f (eu c) + f (ev c)) * ((z (eu c) - z (ev c)) * (z (eu c) - z (ev c)))) := hR_congr (fun c hc => by
    rw [wh c hc]
    unfold hkx
    grind)
  have q4 := hkMu_sum (T := fun u v => 1 / (f u + f v) * ((z u - z v) * (z u - z v))) hO (fun u v => by
    have : f u + f v = f v + f u := by grind
    rw [this]
    grind)
  have r1 : hR 9 (fun u => ((zgR rows u : Nat) : Rat) * (z u * z u)) ≤ K * hR 9 (fun v => 1 / (f v + b) * (z v * z v)) := by
    rw [← hR_mul]
    refine hR_le (fun v hv => ?_)
    have a := ha v hv
    have c := Rat.mul_nonneg (a := K - ((zgR rows v : Nat) : Rat) * (f v + b)) (b := 1 / (f v + b) * (z v * z v)) (by have := hr v hv; grind) (Rat.mul_nonneg (by have := rdiv1 a; grind) (rsq _))
    have d : ((zgR rows v : Nat) : Rat) * (f v + b) * (1 / (f v + b) * (z v * z v)) = ((zgR rows v : Nat) : Rat) * (z v * z v) := by
      generalize f v + b = x at *
      have : x ≠ 0 := by grind
      grind
    grind
  have r2 : hR 9 (fun u => hR 9 (fun v => if v = u then 0 else ((zgK rows u v : Nat) : Rat) * ((z u - z v) * (z u - z v)))) ≤ K * hR 9 (fun u => hR 9 (fun v => if v = u then 0 else hkMu eu ev u v * (1 / (f u + f v) * ((z u - z v) * (z u - z v))))) := by
    rw [← hR_mul]
    refine hR_le (fun u hu => ?_)
    rw [← hR_mul]
    refine hR_le (fun v hv => ?_)
    by_cases q : v = u
    · rw [if_pos q, if_pos q]; grind
    · rw [if_neg q, if_neg q]
      have a := hx u v hu hv (Ne.symm q)
      have c := Rat.mul_nonneg (a := K * hkMu eu ev u v - ((zgK rows u v : Nat) : Rat) * (f u + f v)) (b := 1 / (f u + f v) * ((z u - z v) * (z u - z v))) (by have := hk u v hu hv (Ne.symm q); grind) (Rat.mul_nonneg (by have := rdiv1 a; grind) (rsq _))
      have d : ((zgK rows u v : Nat) : Rat) * (f u + f v) * (1 / (f u + f v) * ((z u - z v) * (z u - z v))) = ((zgK rows u v : Nat) : Rat) * ((z u - z v) * (z u - z v)) := by
        generalize f u + f v = x at *
        have : x ≠ 0 := by grind
        grind
      grind
  rw [hkQ_sc, q2, q3]
  rw [q4] at r2
  have q1' : 2 * hkQ 9 (zgL 9 rows) z = 2 * hR 9 (fun u => ((zgR rows u : Nat) : Rat) * (z u * z u)) + hR 9 (fun u => hR 9 (fun v => if v = u then 0 else ((zgK rows u v : Nat) : Rat) * ((z u - z v) * (z u - z v)))) := q1
  generalize hkQ 9 (zgL 9 rows) z = L at *
  generalize hR 9 (fun u => ((zgR rows u : Nat) : Rat) * (z u * z u)) = A at *
  generalize hR 9 (fun u => hR 9 (fun v => if v = u then 0 else ((zgK rows u v : Nat) : Rat) * ((z u - z v) * (z u - z v)))) = B at *
  generalize hR 9 (fun v => 1 / (f v + b) * (z v * z v)) = C at *
  generalize hR 10 (fun c => 1 / (f (eu c) + f (ev c)) * ((z (eu c) - z (ev c)) * (z (eu c) - z (ev c)))) = D at *
  have s : L ≤ K * (C + D) := by grind
  have m := Rat.mul_nonneg (a := 1 / K) (b := K * (C + D) - L) (by grind) (by grind)
  have e : 1 / K * (K * (C + D)) = C + D := by
    have : K ≠ 0 := by grind
    clear m s r1 r2 q1 q1' q2 q3 q4
    grind
  grind
