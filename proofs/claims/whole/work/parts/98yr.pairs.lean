/-! columns by pairs of nodes -/
theorem rcan {a b c : Rat} (hc : c ≠ 0) (h : a * c = b * c) : a = b := by
  have e1 : a = a * c * c⁻¹ := by clear h; grind
  have e2 : b = b * c * c⁻¹ := by clear h e1; grind
  rw [e1, h, ← e2]
theorem rdd {a b : Rat} (hb : b ≠ 0) : a / b * (a / b) * (b * b) = a * a := by grind
theorem hR_upd {f g : Nat → Rat} {n c : Nat} {t : Rat} (hc : c < n) (h : ∀ i, i < n → i ≠ c → g i = f i) (hg : g c = f c + t) : hR n g = hR n f + t := by
  have e : hR n g = hR n (fun i => f i + (if i = c then t else 0)) := hR_congr (fun i hi => by
    by_cases q : i = c
    · rw [if_pos q, q]; exact hg
    · rw [if_neg q, h i hi q]; grind)
  rw [e, hR_add, hR_one (c := c) (f := fun i => if i = c then t else 0) hc (fun i _ hne => by rw [if_neg hne]), if_pos rfl]
theorem hkmu_s1 {eu ev : Nat → Nat} {k u v : Nat} (ho : eu k < ev k) (huv : u < v) (hne : ¬ (u = eu k ∧ v = ev k)) : hkmu eu ev (k + 1) u v = hkmu eu ev k u v := by
  show hkmu eu ev k u v + (if (eu k = u ∧ ev k = v) ∨ (eu k = v ∧ ev k = u) then 1 else 0) = _
  rw [if_neg (by omega)]
  omega
theorem hkmu_s2 {eu ev : Nat → Nat} {k : Nat} : hkmu eu ev (k + 1) (eu k) (ev k) = hkmu eu ev k (eu k) (ev k) + 1 := by
  show hkmu eu ev k (eu k) (ev k) + (if (eu k = eu k ∧ ev k = ev k) ∨ (eu k = ev k ∧ ev k = eu k) then 1 else 0) = _
  rw [if_pos (Or.inl ⟨rfl, rfl⟩)]
theorem hk_prod2 {eu ev : Nat → Nat} {G : Nat → Nat → Nat → Rat} : ∀ k, (∀ c, c < k → eu c < ev c ∧ ev c < 9) → hpR (fun c => G (eu c) (ev c) (hkmu eu ev c (eu c) (ev c))) k = hpR (fun u => hpR (fun v => if u < v then hpR (G u v) (hkmu eu ev k u v) else 1) 9) 9 := by
  intro k
  induction k with
  | zero =>
    intro _
    have one : ∀ (f : Nat → Rat) n, (∀ i, i < n → f i = 1) → hpR f n = 1 := fun f n => by
      induction n with
      | zero => intro _; rfl
      | succ n ih =>
        intro h
        show hpR f n * f n = 1
        rw [ih (fun i hi => h i (by omega)), h n (by omega)]
        grind
    show (1 : Rat) = _
    rw [one _ 9 (fun u _ => one _ 9 (fun v _ => by
      by_cases q : u < v
      · rw [if_pos q]; rfl
      · rw [if_neg q]))]
  | succ k ih =>
    intro hO
    obtain ⟨o1, o2⟩ := hO k (by omega)
    have i1 := ih (fun c hc => hO c (by omega))
    show hpR (fun c => G (eu c) (ev c) (hkmu eu ev c (eu c) (ev c))) k * G (eu k) (ev k) (hkmu eu ev k (eu k) (ev k)) = _
    rw [i1]
    refine (hpR_upd (c := eu k) (by omega) (fun u hu hne => ?_) ?_).symm
    · have : (fun v => if u < v then hpR (G u v) (hkmu eu ev (k + 1) u v) else 1) = fun v => if u < v then hpR (G u v) (hkmu eu ev k u v) else 1 := funext fun v => by
        by_cases q : u < v
        · rw [if_pos q, if_pos q, hkmu_s1 o1 q (fun g => hne g.1)]
        · rw [if_neg q, if_neg q]
      rw [this]
    · refine hpR_upd (c := ev k) o2 (fun v hv hne => ?_) ?_
      · by_cases q : eu k < v
        · rw [if_pos q, if_pos q, hkmu_s1 o1 q (fun g => hne g.2)]
        · rw [if_neg q, if_neg q]
      · rw [if_pos o1, if_pos o1, hkmu_s2]
        rfl
theorem hk_sum2 {eu ev : Nat → Nat} {S : Nat → Nat → Nat → Rat} {T : Nat → Nat → Rat} : ∀ k, (∀ c, c < k → eu c < ev c ∧ ev c < 9) → hR k (fun c => S (eu c) (ev c) (hkmu eu ev c (eu c) (ev c)) * T (eu c) (ev c)) = hR 9 (fun u => hR 9 (fun v => if u < v then hR (hkmu eu ev k u v) (S u v) * T u v else 0)) := by
  intro k
  induction k with
  | zero =>
    intro _
    show (0 : Rat) = _
    refine (hR_0 (fun u _ => hR_0 (fun v _ => ?_))).symm
    by_cases q : u < v
    · rw [if_pos q]
      show (0 : Rat) * T u v = 0
      grind
    · rw [if_neg q]
  | succ k ih =>
    intro hO
    obtain ⟨o1, o2⟩ := hO k (by omega)
    have i1 := ih (fun c hc => hO c (by omega))
    rw [hR_last, i1]
    refine (hR_upd (c := eu k) (by omega) (fun u hu hne => ?_) ?_).symm
    · refine hR_congr (fun v _ => ?_)
      by_cases q : u < v
      · rw [if_pos q, if_pos q, hkmu_s1 o1 q (fun g => hne g.1)]
      · rw [if_neg q, if_neg q]
    · refine hR_upd (c := ev k) o2 (fun v hv hne => ?_) ?_
      · by_cases q : eu k < v
        · rw [if_pos q, if_pos q, hkmu_s1 o1 q (fun g => hne g.2)]
        · rw [if_neg q, if_neg q]
      · rw [if_pos o1, if_pos o1, hkmu_s2, hR_last]
        grind
theorem hR_tri {n : Nat} {F : Nat → Nat → Rat} (hs : ∀ u v, F u v = F v u) : hR n (fun u => hR n (fun v => if v = u then 0 else F u v)) = 2 * hR n (fun u => hR n (fun v => if u < v then F u v else 0)) := by
  have t : hR n (fun u => hR n (fun v => if v = u then 0 else F u v)) = hR n (fun u => hR n (fun v => (if u < v then F u v else 0) + (if v < u then F v u else 0))) := hR_congr (fun u _ => hR_congr (fun v _ => by
    by_cases q : v = u
    · rw [if_pos q, if_neg (by omega), if_neg (by omega)]; grind
    · rw [if_neg q]
      by_cases q2 : u < v
      · rw [if_pos q2, if_neg (by omega)]; grind
      · rw [if_neg q2, if_pos (by omega), hs v u]; grind))
  rw [t, hR_congr (fun u _ => hR_add _ _), hR_add]
  have t2 : hR n (fun u => hR n (fun v => if v < u then F v u else 0)) = hR n (fun u => hR n (fun v => if u < v then F u v else 0)) := by rw [hR_swap]
  rw [t2]
  grind
/-- how many parallel columns come before -/
theorem hkj_mu {eu ev : Nat → Nat} {k : Nat} (hO : ∀ c, c ≤ k → eu c < ev c) : hkj eu ev k = ((hkmu eu ev k (eu k) (ev k) : Nat) : Rat) := by
  have : ∀ n, n ≤ k → hR n (hkpp eu ev k) = ((hkmu eu ev n (eu k) (ev k) : Nat) : Rat) := fun n => by
    induction n with
    | zero => intro _; rfl
    | succ n ih =>
      intro hn
      rw [hR_last, ih (by omega)]
      show _ = ((hkmu eu ev n (eu k) (ev k) + (if (eu n = eu k ∧ ev n = ev k) ∨ (eu n = ev k ∧ ev n = eu k) then 1 else 0) : Nat) : Rat)
      rw [Rat.natCast_add]
      have o1 := hO n (by omega)
      have o2 := hO k (by omega)
      unfold hkpp
      by_cases q : eu n = eu k ∧ ev n = ev k
      · rw [if_pos q, if_pos (Or.inl q)]; rfl
      · rw [if_neg q, if_neg (by omega)]; rfl
  exact this k (Nat.le_refl _)
/-- the numbers of a bundle: the j-th column -/
def bnD (x θ : Rat) (j : Nat) : Rat := x - ((j : Nat) : Rat) * θ + θ
def bnB (x θ : Rat) (j : Nat) : Rat := (x + θ) * (x - ((j : Nat) : Rat) * θ) / bnD x θ j
def bnT (x θ : Rat) (j : Nat) : Rat := (x + θ) / bnD x θ j * ((x + θ) / bnD x θ j) / bnB x θ j
theorem bn_sum {x θ : Rat} : ∀ m : Nat, 0 < x + θ → (∀ j, j < m → 0 < x - ((j : Nat) : Rat) * θ) → (∀ j, j < m → 0 < bnD x θ j) → hR m (bnT x θ) * bnD x θ m = ((m : Nat) : Rat) := by
  intro m
  induction m with
  | zero => intro _ _ _; show (0 : Rat) * _ = ((0 : Nat) : Rat); grind
  | succ m ih =>
    intro h0 h1 h2
    have i1 := ih h0 (fun j hj => h1 j (by omega)) (fun j hj => h2 j (by omega))
    have a1 := h1 m (by omega)
    have a2 := h2 m (by omega)
    rw [hR_last]
    have e1 : bnD x θ (m + 1) = x - ((m : Nat) : Rat) * θ := by
      unfold bnD
      rw [Rat.natCast_add]
      have : ((1 : Nat) : Rat) = 1 := rfl
      rw [this]
      grind
    have e2 : ((m + 1 : Nat) : Rat) = ((m : Nat) : Rat) + 1 := by rw [Rat.natCast_add]; rfl
    rw [e1, e2]
    have dd : bnD x θ m = x - ((m : Nat) : Rat) * θ + θ := rfl
    have bb : bnB x θ m * bnD x θ m = (x + θ) * (x - ((m : Nat) : Rat) * θ) := by unfold bnB; grind
    have tt : bnT x θ m * (bnD x θ m * (x - ((m : Nat) : Rat) * θ)) = x + θ := by
      have bp : bnB x θ m ≠ 0 := fun q => by
        rw [q] at bb
        have := Rat.mul_pos h0 a1
        grind
      have k1 : bnT x θ m * bnB x θ m = (x + θ) / bnD x θ m * ((x + θ) / bnD x θ m) := by unfold bnT; grind
      have k2 : bnT x θ m * (bnB x θ m * bnD x θ m) * bnD x θ m = (x + θ) * (x + θ) := by
        have : bnT x θ m * (bnB x θ m * bnD x θ m) * bnD x θ m = (bnT x θ m * bnB x θ m) * (bnD x θ m * bnD x θ m) := by grind
        rw [this, k1]
        exact rdd (by clear ih h1 h2 i1 k1; grind)
      rw [bb] at k2
      have k3 : bnT x θ m * (bnD x θ m * (x - ((m : Nat) : Rat) * θ)) * (x + θ) = (x + θ) * (x + θ) := by rw [← k2]; grind
      exact rcan (by clear ih h1 h2 i1 k1 k2 k3; grind) k3
    generalize hR m (bnT x θ) = H at *
    generalize bnT x θ m = t at *
    generalize bnD x θ m = D at *
    generalize ((m : Nat) : Rat) = μ at *
    -- H D = m, t D y = x + th, D = y + th
    generalize hy : x - μ * θ = y at *
    have k : (H + t) * y * D = (μ + 1) * D := by
      have k1 : (H + t) * y * D = (H * D) * y + t * (D * y) := by grind
      rw [k1, i1, tt, dd]
      grind
    exact rcan (by clear ih h1 h2 i1 k tt dd bb; grind) k
theorem bn_prod {x θ : Rat} : ∀ m : Nat, 0 < x + θ → (∀ j, j < m → 0 < bnD x θ j) → hpR (bnB x θ) m * (x + θ) = (x + θ) ^ m * bnD x θ m := by
  intro m
  induction m with
  | zero =>
    intro _ _
    show (1 : Rat) * (x + θ) = (x + θ) ^ 0 * bnD x θ 0
    unfold bnD
    have : ((0 : Nat) : Rat) = 0 := rfl
    rw [this]
    grind
  | succ m ih =>
    intro h0 h2
    have i1 := ih h0 (fun j hj => h2 j (by omega))
    have a2 := h2 m (by omega)
    have e1 : bnD x θ (m + 1) = x - ((m : Nat) : Rat) * θ := by
      unfold bnD
      rw [Rat.natCast_add]
      have : ((1 : Nat) : Rat) = 1 := rfl
      rw [this]
      grind
    show hpR (bnB x θ) m * bnB x θ m * (x + θ) = (x + θ) ^ (m + 1) * bnD x θ (m + 1)
    have bb : bnB x θ m * bnD x θ m = (x + θ) * (x - ((m : Nat) : Rat) * θ) := by unfold bnB; grind
    have p : (x + θ) ^ (m + 1) = (x + θ) ^ m * (x + θ) := by grind
    rw [e1, p]
    have k : hpR (bnB x θ) m * bnB x θ m * (x + θ) = (x + θ) ^ m * (bnB x θ m * bnD x θ m) := by
      have : hpR (bnB x θ) m * bnB x θ m * (x + θ) = (hpR (bnB x θ) m * (x + θ)) * bnB x θ m := by grind
      rw [this, i1]
      grind
    rw [k, bb]
    grind
