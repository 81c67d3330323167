/-! nodes renamed -/
theorem hkRG_pi {eu ev π ι : Nat → Nat} {z : Nat → Int} (hO : ∀ c, c < 10 → eu c < 9 ∧ ev c < 9 ∧ eu c ≠ ev c) (h1 : ∀ v, v < 9 → π v < 9) (h2 : ∀ w, w < 9 → ι w < 9 ∧ π (ι w) = w) (h3 : ∀ v, v < 9 → ι (π v) = v) (h : hkRG eu ev z) : hkRG (fun c => π (eu c)) (fun c => π (ev c)) z := by
  obtain ⟨za, zb, ⟨a, b, a1, b1, zc⟩, zd, ze⟩ := h
  have eq : ∀ v w, v < 9 → w < 9 → (π v = w ↔ v = ι w) := fun v w hv hw => ⟨fun e => by rw [← e, h3 v hv], fun e => by rw [e]; exact (h2 w hw).2⟩
  have ie : ∀ v w, v < 9 → w < 9 → iv (π v) w = iv v (ι w) := fun v w hv hw => by
    unfold iv
    by_cases q : v = ι w
    · rw [if_pos q, if_pos ((eq v w hv hw).mpr q)]
    · rw [if_neg q, if_neg (fun g => q ((eq v w hv hw).mp g))]
  have dv : ∀ w, w < 9 → hkdv (fun c => π (eu c)) (fun c => π (ev c)) z w = hkdv eu ev z (ι w) := fun w hw => by
    unfold hkdv
    exact sI_congr (fun c hc => by
      obtain ⟨o1, o2, _⟩ := hO c hc
      rw [ie _ _ o2 hw, ie _ _ o1 hw])
  refine ⟨za, fun w hw => ?_, ⟨π a, π b, h1 a a1, h1 b b1, fun w hw => ?_⟩, fun c d hc hd hcd hp z1 z2 => ?_, fun A hA => ze (fun v => A (π v)) hA⟩
  · have e : sI (fun c => if π (eu c) = w ∨ π (ev c) = w then z c * z c else 0) 10 = sI (fun c => if eu c = ι w ∨ ev c = ι w then z c * z c else 0) 10 := sI_congr (fun c hc => by
      obtain ⟨o1, o2, _⟩ := hO c hc
      by_cases q : eu c = ι w ∨ ev c = ι w
      · rw [if_pos q, if_pos (q.elim (fun g => Or.inl ((eq _ _ o1 hw).mpr g)) (fun g => Or.inr ((eq _ _ o2 hw).mpr g)))]
      · rw [if_neg q, if_neg (fun g => q (g.elim (fun g => Or.inl ((eq _ _ o1 hw).mp g)) (fun g => Or.inr ((eq _ _ o2 hw).mp g))))])
    rw [dv w hw, e]
    exact zb (ι w) (h2 w hw).1
  · rw [dv w hw, zc (ι w) (h2 w hw).1, ie a w a1 hw, ie b w b1 hw]
  · refine zd c d hc hd hcd ?_ z1 z2
    obtain ⟨c1, c2, _⟩ := hO c hc
    obtain ⟨d1, d2, _⟩ := hO d hd
    have inj : ∀ u v, u < 9 → v < 9 → π u = π v → u = v := fun u v hu hv e => by rw [← h3 u hu, e, h3 v hv]
    rcases hp with ⟨g1, g2⟩ | ⟨g1, g2⟩
    · exact Or.inl ⟨inj _ _ c1 d1 g1, inj _ _ c2 d2 g2⟩
    · exact Or.inr ⟨inj _ _ c1 d2 g1, inj _ _ c2 d1 g2⟩
theorem hkCE1_pi {eu ev π ι : Nat → Nat} (hO : ∀ c, c < 10 → eu c < 9 ∧ ev c < 9 ∧ eu c ≠ ev c) (h1 : ∀ v, v < 9 → π v < 9) (h2 : ∀ w, w < 9 → ι w < 9 ∧ π (ι w) = w) (h3 : ∀ v, v < 9 → ι (π v) = v) (h : hkCE1 (fun c => π (eu c)) (fun c => π (ev c))) : hkCE1 eu ev := by
  obtain ⟨Q, g, t, W, a1, a2, a3, a4, a5, a6⟩ := h
  exact ⟨Q, g, t, W, a1, a2, a3, fun z hz => a4 z (hkRG_pi hO h1 h2 h3 hz), a5, a6⟩
/-- the number of columns between two nodes, counted -/
def hkmu (eu ev : Nat → Nat) (k u v : Nat) : Nat := match k with
  | 0 => 0
  | k + 1 => hkmu eu ev k u v + if (eu k = u ∧ ev k = v) ∨ (eu k = v ∧ ev k = u) then 1 else 0
theorem hkmu_q {eu ev : Nat → Nat} {u v : Nat} : hkMu eu ev u v = ((hkmu eu ev 10 u v : Nat) : Rat) := by
  have : ∀ k, hR k (fun c => if (eu c = u ∧ ev c = v) ∨ (eu c = v ∧ ev c = u) then (1 : Rat) else 0) = ((hkmu eu ev k u v : Nat) : Rat) := fun k => by
    induction k with
    | zero => rfl
    | succ k ih =>
      rw [hR_last, ih]
      show _ = ((hkmu eu ev k u v + (if (eu k = u ∧ ev k = v) ∨ (eu k = v ∧ ev k = u) then 1 else 0) : Nat) : Rat)
      rw [Rat.natCast_add]
      by_cases q : (eu k = u ∧ ev k = v) ∨ (eu k = v ∧ ev k = u)
      · rw [if_pos q, if_pos q]; rfl
      · rw [if_neg q, if_neg q]; rfl
  exact this 10
/-- products over nodes -/
theorem hpR_upd {f g : Nat → Rat} {n c : Nat} {t : Rat} (hc : c < n) (h : ∀ i, i < n → i ≠ c → g i = f i) (hg : g c = f c * t) : hpR g n = hpR f n * t := by
  induction n with
  | zero => omega
  | succ n ih =>
    show hpR g n * g n = hpR f n * f n * t
    by_cases e : c = n
    · have : hpR g n = hpR f n := by
        have : ∀ m, m ≤ n → hpR g m = hpR f m := fun m => by
          induction m with
          | zero => intro _; rfl
          | succ m ih2 =>
            intro hm
            show hpR g m * g m = hpR f m * f m
            rw [ih2 (by omega), h m (by omega) (by omega)]
        exact this n (Nat.le_refl _)
      rw [this, ← e, hg]
      grind
    · rw [ih (by omega) (fun i hi hne => h i (by omega) hne), h n (by omega) (Ne.symm e)]
      grind
theorem hk_prod {eu ev : Nat → Nat} {G : Nat → Nat → Rat} (hG : ∀ u v, G u v = G v u) : ∀ k, (∀ c, c < k → eu c < 9 ∧ ev c < 9 ∧ eu c ≠ ev c) → hpR (fun c => G (eu c) (ev c)) k = hpR (fun u => hpR (fun v => if u < v then G u v ^ hkmu eu ev k u v else 1) 9) 9 := by
  intro k
  induction k with
  | zero =>
    intro _
    have one : ∀ (f : Nat → Rat) n, (∀ i, i < n → f i = 1) → hpR f n = 1 := fun f n => by
      induction n with
      | zero => intro _; rfl
      | succ n ih =>
        intro h
        show hpR f n * f n = 1
        rw [ih (fun i hi => h i (by omega)), h n (by omega)]
        grind
    show (1 : Rat) = _
    rw [one _ 9 (fun u _ => one _ 9 (fun v _ => by
      by_cases q : u < v
      · rw [if_pos q]
        have : hkmu eu ev 0 u v = 0 := rfl
        rw [this]
        grind
      · rw [if_neg q]))]
  | succ k ih =>
    intro hO
    obtain ⟨o1, o2, o3⟩ := hO k (by omega)
    have i1 := ih (fun c hc => hO c (by omega))
    show hpR (fun c => G (eu c) (ev c)) k * G (eu k) (ev k) = _
    rw [i1]
    -- the pair, in order
    have main : ∀ a b, a < 9 → b < 9 → a < b → ((eu k = a ∧ ev k = b) ∨ (eu k = b ∧ ev k = a)) → hpR (fun u => hpR (fun v => if u < v then G u v ^ hkmu eu ev k u v else 1) 9) 9 * G a b = hpR (fun u => hpR (fun v => if u < v then G u v ^ hkmu eu ev (k + 1) u v else 1) 9) 9 := fun a b ha hb hab hp => by
      have same : ∀ u v, u < v → ¬ (u = a ∧ v = b) → hkmu eu ev (k + 1) u v = hkmu eu ev k u v := fun u v huv hne => by
        show hkmu eu ev k u v + (if (eu k = u ∧ ev k = v) ∨ (eu k = v ∧ ev k = u) then 1 else 0) = _
        rw [if_neg (by omega)]
        omega
      refine (hpR_upd (c := a) ha (fun u hu hne => ?_) ?_).symm
      · have : (fun v => if u < v then G u v ^ hkmu eu ev (k + 1) u v else 1) = fun v => if u < v then G u v ^ hkmu eu ev k u v else 1 := funext fun v => by
          by_cases q : u < v
          · rw [if_pos q, if_pos q, same u v q (fun g => hne g.1)]
          · rw [if_neg q, if_neg q]
        rw [this]
      · refine hpR_upd (c := b) hb (fun v hv hne => ?_) ?_
        · by_cases q : a < v
          · rw [if_pos q, if_pos q, same a v q (fun g => hne g.2)]
          · rw [if_neg q, if_neg q]
        · rw [if_pos hab, if_pos hab]
          have : hkmu eu ev (k + 1) a b = hkmu eu ev k a b + 1 := by
            show hkmu eu ev k a b + (if (eu k = a ∧ ev k = b) ∨ (eu k = b ∧ ev k = a) then 1 else 0) = _
            rw [if_pos hp]
          rw [this]
          grind
    rcases Nat.lt_or_gt_of_ne o3 with g | g
    · exact main _ _ o1 o2 g (Or.inl ⟨rfl, rfl⟩)
    · rw [hG (eu k) (ev k)]
      exact main _ _ o2 o1 g (Or.inr ⟨rfl, rfl⟩)
