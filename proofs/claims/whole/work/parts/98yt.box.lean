/-! the form with th on the box -/
theorem rbox {Q E p q : Rat} (h1 : -E ≤ Q) (h2 : Q ≤ E) (hp : -2000 ≤ p ∧ p ≤ 2000) (hq : -2000 ≤ q ∧ q ≤ 2000) : Q * p * q ≤ 4000000 * E := by
  have a1 := Rat.mul_nonneg (a := 2000 - p) (b := 2000 - q) (by grind) (by grind)
  have a2 := Rat.mul_nonneg (a := 2000 + p) (b := 2000 + q) (by grind) (by grind)
  have a3 := Rat.mul_nonneg (a := 2000 - p) (b := 2000 + q) (by grind) (by grind)
  have a4 := Rat.mul_nonneg (a := 2000 + p) (b := 2000 - q) (by grind) (by grind)
  have u1 : p * q ≤ 4000000 := by grind
  have u2 : -4000000 ≤ p * q := by grind
  have e : Q * p * q = Q * (p * q) := by grind
  rw [e]
  generalize p * q = y at *
  clear a1 a2 a3 a4
  have b1 := Rat.mul_nonneg (a := E - Q) (b := 4000000 + y) (by grind) (by grind)
  have b2 := Rat.mul_nonneg (a := E + Q) (b := 4000000 - y) (by grind) (by grind)
  grind
def hkss (eu ev : Nat → Nat) (v c : Nat) : Rat := if eu c = v ∨ ev c = v then 1 else 0
theorem hkss_cs {eu ev : Nat → Nat} {v c : Nat} (h : eu c ≠ ev c) : (hkss eu ev v c = 0 ∧ hksv eu ev v c = 0) ∨ (hkss eu ev v c = 1 ∧ (hksv eu ev v c = 1 ∨ hksv eu ev v c = -1)) := by
  unfold hkss hksv iv
  by_cases q1 : ev c = v
  · right
    have n1 : ¬ eu c = v := fun q => h (q.trans q1.symm)
    rw [if_pos (Or.inr q1), if_pos q1, if_neg n1]
    exact ⟨rfl, Or.inl rfl⟩
  · by_cases q2 : eu c = v
    · right
      rw [if_neg q1, if_pos q2, if_pos (Or.inl q2)]
      exact ⟨rfl, Or.inr rfl⟩
    · left
      rw [if_neg q1, if_neg q2, if_neg (fun q => q.elim q2 q1)]
      exact ⟨rfl, rfl⟩
theorem hkss_le {eu ev : Nat → Nat} {v c d : Nat} (hc : eu c ≠ ev c) (hd : eu d ≠ ev d) : -(hkss eu ev v c * hkss eu ev v d) ≤ hksv eu ev v c * hksv eu ev v d ∧ hksv eu ev v c * hksv eu ev v d ≤ hkss eu ev v c * hkss eu ev v d := by
  rcases hkss_cs (v := v) hc with ⟨a, b⟩ | ⟨a, b | b⟩ <;> rcases hkss_cs (v := v) hd with ⟨a', b'⟩ | ⟨a', b' | b'⟩ <;> rw [a, b, a', b'] <;> grind
theorem hkss_eq {eu ev : Nat → Nat} {v c d : Nat} (hc : eu c ≠ ev c) (e1 : eu c = eu d) (e2 : ev c = ev d) : hksv eu ev v c * hksv eu ev v d = hkss eu ev v c * hkss eu ev v d := by
  have a : hksv eu ev v d = hksv eu ev v c := by unfold hksv; rw [e1, e2]
  have b : hkss eu ev v d = hkss eu ev v c := by unfold hkss; rw [e1, e2]
  rw [a, b]
  rcases hkss_cs (v := v) hc with ⟨a, b⟩ | ⟨a, b | b⟩ <;> rw [a, b] <;> grind
def hkEE (eu ev : Nat → Nat) (f : Nat → Rat) (b : Rat) (th : Nat → Nat → Rat) (c d : Nat) : Rat := (if c = d then f (eu c) + f (ev c) else 0) + hR 9 (fun v => (f v + b) * (hkss eu ev v c * hkss eu ev v d)) + hkee eu ev th c d
theorem hkEE_b {eu ev : Nat → Nat} {f : Nat → Rat} {b : Rat} {th : Nat → Nat → Rat} (hO : ∀ c, c < 10 → eu c < 9 ∧ ev c < 9 ∧ eu c ≠ ev c) (hf : ∀ v, v < 9 → 0 ≤ f v) (hb : 0 ≤ b)
    (ht : ∀ c d, c < 10 → d < 10 → c ≠ d → eu c = eu d → ev c = ev d → th (eu c) (ev c) ≤ f (eu c) + f (ev c)) {c d : Nat} (hc : c < 10) (hd : d < 10) : -hkEE eu ev f b th c d ≤ hkNQ eu ev f b th c d ∧ hkNQ eu ev f b th c d ≤ hkEE eu ev f b th c d := by
  obtain ⟨c1, c2, c3⟩ := hO c hc
  obtain ⟨d1, d2, d3⟩ := hO d hd
  have nn : ∀ v, v < 9 → 0 ≤ (f v + b) * (hkss eu ev v c * hkss eu ev v d) := fun v hv => by
    refine Rat.mul_nonneg (by have := hf v hv; grind) ?_
    rcases hkss_cs (v := v) c3 with ⟨a, _⟩ | ⟨a, _⟩ <;> rcases hkss_cs (v := v) d3 with ⟨a', _⟩ | ⟨a', _⟩ <;> rw [a, a'] <;> grind
  have S0 := hR_nn nn
  have e0 : hR 9 (fun v => (f v + b) * hksv eu ev v c * hksv eu ev v d) = hR 9 (fun v => (f v + b) * (hksv eu ev v c * hksv eu ev v d)) := hR_congr (fun v _ => by grind)
  have x0 : 0 ≤ f (eu c) + f (ev c) := by have := hf _ c1; have := hf _ c2; grind
  have ee : (if c ≠ d ∧ eu c = eu d ∧ ev c = ev d then -th (eu c) (ev c) else 0) = hkee eu ev th c d := rfl
  unfold hkNQ hkEE
  rw [e0, ee]
  by_cases p : eu c = eu d ∧ ev c = ev d
  · have e1 : hR 9 (fun v => (f v + b) * (hksv eu ev v c * hksv eu ev v d)) = hR 9 (fun v => (f v + b) * (hkss eu ev v c * hkss eu ev v d)) := hR_congr (fun v _ => by rw [hkss_eq c3 p.1 p.2])
    rw [e1]
    have pos : 0 ≤ (if c = d then f (eu c) + f (ev c) else 0) + hR 9 (fun v => (f v + b) * (hkss eu ev v c * hkss eu ev v d)) + hkee eu ev th c d := by
      by_cases q : c = d
      · have z : hkee eu ev th c d = 0 := if_neg (fun g => g.1 q)
        rw [if_pos q, z]
        grind
      · have z : hkee eu ev th c d = -th (eu c) (ev c) := if_pos ⟨q, p.1, p.2⟩
        rw [if_neg q, z]
        have t := ht c d hc hd q p.1 p.2
        have s2 : hR 9 (fun v => (f v + b) * (hkss eu ev v c * hkss eu ev v d)) = (f (eu c) + b) + (f (ev c) + b) := by
          rw [hR_two (c := eu c) (d := ev c) c1 c2 c3 (fun v _ n1 n2 => by
            have : hkss eu ev v c = 0 := if_neg (fun g => g.elim (fun g => n1 g.symm) (fun g => n2 g.symm))
            rw [this]; grind)]
          have k1 : hkss eu ev (eu c) c = 1 := if_pos (Or.inl rfl)
          have k2 : hkss eu ev (ev c) c = 1 := if_pos (Or.inr rfl)
          have k3 : hkss eu ev (eu c) d = 1 := if_pos (Or.inl p.1.symm)
          have k4 : hkss eu ev (ev c) d = 1 := if_pos (Or.inr p.2.symm)
          rw [k1, k2, k3, k4]
          grind
        rw [s2]
        grind
    exact ⟨by grind, by grind⟩
  · have q : ¬ c = d := fun g => p (by rw [g]; exact ⟨rfl, rfl⟩)
    have z : hkee eu ev th c d = 0 := if_neg (fun g => p g.2)
    rw [if_neg q, z]
    have l1 := hR_le (n := 9) (f := fun v => (f v + b) * (hksv eu ev v c * hksv eu ev v d)) (g := fun v => (f v + b) * (hkss eu ev v c * hkss eu ev v d)) (fun v hv => by
      have := Rat.mul_nonneg (a := f v + b) (b := hkss eu ev v c * hkss eu ev v d - hksv eu ev v c * hksv eu ev v d) (by have := hf v hv; grind) (by have := (hkss_le (v := v) c3 d3).2; grind)
      grind)
    have l2 := hR_le (n := 9) (f := fun v => (-1) * ((f v + b) * (hkss eu ev v c * hkss eu ev v d))) (g := fun v => (f v + b) * (hksv eu ev v c * hksv eu ev v d)) (fun v hv => by
      have := Rat.mul_nonneg (a := f v + b) (b := hkss eu ev v c * hkss eu ev v d + hksv eu ev v c * hksv eu ev v d) (by have := hf v hv; grind) (by have := (hkss_le (v := v) c3 d3).1; grind)
      grind)
    rw [hR_mul] at l2
    exact ⟨by grind, by grind⟩
theorem hkEE_s {eu ev : Nat → Nat} {f : Nat → Rat} {b : Rat} {th : Nat → Nat → Rat} (hO : ∀ c, c < 10 → eu c < 9 ∧ ev c < 9 ∧ eu c ≠ ev c) : hR 10 (fun c => hR 10 (fun d => hkEE eu ev f b th c d)) = hkmx eu ev f b + hR 10 (fun c => hR 10 (fun d => hkee eu ev th c d)) := by
  have e1 : ∀ c, c < 10 → hR 10 (fun d => hkEE eu ev f b th c d) = (f (eu c) + f (ev c)) * 1 + hR 9 (fun v => (f v + b) * hkdg eu ev v * hkss eu ev v c) + hR 10 (fun d => hkee eu ev th c d) := fun c hc => by
    unfold hkEE
    rw [hR_add, hR_add, hR_one (c := c) hc (fun d _ hne => by rw [if_neg (Ne.symm hne)]), if_pos rfl, hR_swap]
    have : hR 9 (fun v => hR 10 (fun d => (f v + b) * (hkss eu ev v c * hkss eu ev v d))) = hR 9 (fun v => (f v + b) * hkdg eu ev v * hkss eu ev v c) := hR_congr (fun v _ => by
      have t : hR 10 (fun d => (f v + b) * (hkss eu ev v c * hkss eu ev v d)) = hR 10 (fun d => ((f v + b) * hkss eu ev v c) * (if eu d = v ∨ ev d = v then 1 else 0)) := hR_congr (fun d _ => by
        show (f v + b) * (hkss eu ev v c * (if eu d = v ∨ ev d = v then 1 else 0)) = _
        grind)
      rw [t, hR_mul]
      show (f v + b) * hkss eu ev v c * hkdg eu ev v = _
      grind)
    rw [this]
    grind
  rw [hR_congr e1, hR_add, hR_add, hk_deg hO (fun _ => 1), hR_swap]
  have e2 : hR 9 (fun v => hR 10 (fun c => (f v + b) * hkdg eu ev v * hkss eu ev v c)) = hR 9 (fun v => (f v + b) * (hkdg eu ev v * hkdg eu ev v)) := hR_congr (fun v _ => by
    rw [hR_mul]
    show (f v + b) * hkdg eu ev v * hkdg eu ev v = _
    grind)
  rw [e2]
  unfold hkmx
  rw [hR_add]
  show hR 9 (fun v => f v * hkdg eu ev v) + _ + _ = _
  grind
theorem hkNQ_boxt {eu ev : Nat → Nat} {f : Nat → Rat} {b : Rat} {th : Nat → Nat → Rat} (hO : ∀ c, c < 10 → eu c < 9 ∧ ev c < 9 ∧ eu c ≠ ev c) (hf : ∀ v, v < 9 → 0 ≤ f v) (hb : 0 ≤ b)
    (ht : ∀ c d, c < 10 → d < 10 → c ≠ d → eu c = eu d → ev c = ev d → th (eu c) (ev c) ≤ f (eu c) + f (ev c)) {x : Nat → Rat} (h : ∀ c, c < 10 → -2000 ≤ x c ∧ x c ≤ 2000) :
    hkQ 10 (hkNQ eu ev f b th) x ≤ 4000000 * (hkmx eu ev f b + hR 10 (fun c => hR 10 (fun d => hkee eu ev th c d))) := by
  rw [← hkEE_s hO, ← hR_mul]
  unfold hkQ
  refine hR_le (fun c hc => ?_)
  rw [← hR_mul]
  refine hR_le (fun d hd => ?_)
  have := hkEE_b hO hf hb ht hc hd
  exact rbox this.1 this.2 (h c hc) (h d hd)
def nth (m th : Nat → Nat → Nat) : Nat := nS (fun u => nS (fun v => if u < v then m u v * (m u v - 1) * th u v else 0) 9) 9
theorem hkee_s1 {eu ev : Nat → Nat} {th : Nat → Nat → Rat} : ∀ k, (∀ c, c < k → eu c < ev c) → hR k (fun c => hR k (fun d => hkee eu ev th c d)) = hR k (fun c => -2 * ((hkmu eu ev c (eu c) (ev c) : Nat) : Rat) * th (eu c) (ev c)) := by
  intro k
  induction k with
  | zero => intro _; rfl
  | succ k ih =>
    intro hO
    have i1 := ih (fun c hc => hO c (by omega))
    have a1 : ∀ c, hR (k + 1) (fun d => hkee eu ev th c d) = hR k (fun d => hkee eu ev th c d) + hkee eu ev th c k := fun c => hR_last _
    rw [hR_last, hR_congr (fun c _ => a1 c), a1 k, hR_add, i1, hR_last]
    have kk : hkee eu ev th k k = 0 := if_neg (fun g => g.1 rfl)
    have a2 : hR k (fun c => hkee eu ev th c k) = (-th (eu k) (ev k)) * hkj eu ev k := by
      unfold hkj
      rw [← hR_mul]
      refine hR_congr (fun c hc => ?_)
      unfold hkee hkpp
      by_cases q : eu c = eu k ∧ ev c = ev k
      · rw [if_pos ⟨by omega, q.1, q.2⟩, if_pos q, q.1, q.2]; grind
      · rw [if_neg (fun g => q g.2), if_neg q]; grind
    have a3 : hR k (fun d => hkee eu ev th k d) = hR k (fun c => hkee eu ev th c k) := hR_congr (fun c _ => hkee_sy _ _ _ _ _)
    rw [a3, a2, kk, hkj_mu (fun c hc => hO c (by omega))]
    grind
theorem hkee_s2 {eu ev : Nat → Nat} {th : Nat → Nat → Nat} (hO : ∀ c, c < 10 → eu c < ev c ∧ ev c < 9) : hR 10 (fun c => hR 10 (fun d => hkee eu ev (fun u v => ((th u v : Nat) : Rat)) c d)) = -((nth (hkmu eu ev 10) th : Nat) : Rat) := by
  rw [hkee_s1 10 (fun c hc => (hO c hc).1)]
  have e0 : hR 10 (fun c => -2 * ((hkmu eu ev c (eu c) (ev c) : Nat) : Rat) * ((th (eu c) (ev c) : Nat) : Rat)) = hR 9 (fun u => hR 9 (fun v => if u < v then hR (hkmu eu ev 10 u v) (fun j => -2 * ((j : Nat) : Rat)) * ((th u v : Nat) : Rat) else 0)) := hk_sum2 (S := fun (_ _ j : Nat) => -2 * ((j : Nat) : Rat)) (T := fun u v => ((th u v : Nat) : Rat)) 10 hO
  rw [e0]
  have sm : ∀ m : Nat, hR m (fun j => -2 * ((j : Nat) : Rat)) = -((m * (m - 1) : Nat) : Rat) := fun m => by
    induction m with
    | zero => rfl
    | succ m ih =>
      rw [hR_last, ih]
      have e : (m + 1) * (m + 1 - 1) = m * (m - 1) + 2 * m := by
        rcases m with _ | m
        · rfl
        · show (m + 1 + 1) * (m + 1) = (m + 1) * m + 2 * (m + 1)
          rw [Nat.mul_comm (m + 1) m, ← Nat.add_mul]
      rw [e, Rat.natCast_add, Rat.natCast_mul 2 m]
      have : ((2 : Nat) : Rat) = 2 := rfl
      rw [this]
      grind
  unfold nth
  rw [nS_q]
  have : -hR 9 (fun i => ((nS (fun v => if i < v then hkmu eu ev 10 i v * (hkmu eu ev 10 i v - 1) * th i v else 0) 9 : Nat) : Rat)) = (-1) * hR 9 (fun i => ((nS (fun v => if i < v then hkmu eu ev 10 i v * (hkmu eu ev 10 i v - 1) * th i v else 0) 9 : Nat) : Rat)) := by grind
  rw [this, ← hR_mul]
  refine hR_congr (fun u _ => ?_)
  rw [nS_q, ← hR_mul]
  refine hR_congr (fun v _ => ?_)
  by_cases q : u < v
  · rw [if_pos q, if_pos q, sm, Rat.natCast_mul _ (th u v)]
    grind
  · rw [if_neg q, if_neg q]
    have : ((0 : Nat) : Rat) = 0 := rfl
    rw [this]
    grind
