/-! graphs as matrices of multiplicities -/
theorem nS_congr {f g : Nat → Nat} {n : Nat} (h : ∀ i, i < n → f i = g i) : nS f n = nS g n := by
  induction n with
  | zero => rfl
  | succ n ih =>
    show nS f n + f n = nS g n + g n
    rw [ih (fun i hi => h i (by omega)), h n (by omega)]
theorem nP_congr {f g : Nat → Nat} {n : Nat} (h : ∀ i, i < n → f i = g i) : nP f n = nP g n := by
  induction n with
  | zero => rfl
  | succ n ih =>
    show nP f n * f n = nP g n * g n
    rw [ih (fun i hi => h i (by omega)), h n (by omega)]
/-- the numbers that show a matrix good -/
def gdM (m : Nat → Nat → Nat) : Prop := ∃ (f : Nat → Nat) (b K : Nat) (rows : List (List Nat)), (∀ v, v < 9 → 0 < f v) ∧ 0 < K ∧ zgH 9 rows ∧ (∀ p, p ∈ zgE 9 rows → 0 < p) ∧ (∀ v, v < 9 → 0 < zgR rows v) ∧
  (∀ v, v < 9 → zgR rows v * (f v + b) ≤ K) ∧ (∀ u v, u < 9 → v < 9 → u ≠ v → zgK rows u v * (f u + f v) ≤ K * m u v) ∧
  400 * (2 * nS f 9 + 2 * b) ^ 9 * nmx m f b * K ^ 9 * zgD (zgE 9 rows) < 387420489 * nxx m f * nP (fun v => f v + b) 9 * zgN (zgE 9 rows)
theorem gdM_congr {m m' : Nat → Nat → Nat} (h : ∀ u v, u < 9 → v < 9 → m u v = m' u v) (g : gdM m) : gdM m' := by
  obtain ⟨f, b, K, rows, a1, a2, a3, a4, a5, a6, a7, a8⟩ := g
  have e0 : ∀ v, v < 9 → ndg m v = ndg m' v := fun v hv => nS_congr (fun u hu => by
    show (if u = v then 0 else m u v) = (if u = v then 0 else m' u v)
    rw [h u v hu hv])
  have e1 : nmx m f b = nmx m' f b := nS_congr (fun v hv => by
    show (f v + b) * (ndg m v * ndg m v) + f v * ndg m v = (f v + b) * (ndg m' v * ndg m' v) + f v * ndg m' v
    rw [e0 v hv])
  have e2 : nxx m f = nxx m' f := nP_congr (fun u hu => nP_congr (fun v hv => by
    show (if u < v then (f u + f v) ^ m u v else 1) = (if u < v then (f u + f v) ^ m' u v else 1)
    rw [h u v hu hv]))
  refine ⟨f, b, K, rows, a1, a2, a3, a4, a5, a6, fun u v hu hv hne => ?_, ?_⟩
  · rw [← h u v hu hv]; exact a7 u v hu hv hne
  · rw [← e1, ← e2]; exact a8
theorem gdM_ce {eu ev : Nat → Nat} (hO : ∀ c, c < 10 → eu c < 9 ∧ ev c < 9 ∧ eu c ≠ ev c) (g : gdM (hkmu eu ev 10)) : hkCE1 eu ev := by
  obtain ⟨f, b, K, rows, a1, a2, a3, a4, a5, a6, a7, a8⟩ := g
  exact hk_leafN hO a1 a2 a3 a4 a5 a6 a7 a8
/-- a permutation of the nodes, with the way back -/
def pmN (π ι : Nat → Nat) : Prop := (∀ v, v < 9 → π v < 9) ∧ (∀ w, w < 9 → ι w < 9 ∧ π (ι w) = w) ∧ ∀ v, v < 9 → ι (π v) = v
theorem pmN.id : pmN (fun v => v) (fun v => v) := ⟨fun _ h => h, fun _ h => ⟨h, rfl⟩, fun _ _ => rfl⟩
theorem pmN.tr {π ι π' ι' : Nat → Nat} (h : pmN π ι) (g : pmN π' ι') : pmN (fun v => π' (π v)) (fun v => ι (ι' v)) := ⟨fun v hv => g.1 _ (h.1 v hv), fun w hw => ⟨(h.2.1 _ (g.2.1 w hw).1).1, by show π' (π (ι (ι' w))) = w; rw [(h.2.1 _ (g.2.1 w hw).1).2, (g.2.1 w hw).2]⟩, fun v hv => by show ι (ι' (π' (π v))) = v; rw [g.2.2 _ (h.1 v hv), h.2.2 v hv]⟩
theorem hkmu_pi {eu ev π ι : Nat → Nat} (hp : pmN π ι) {u v : Nat} (hu : u < 9) (hv : v < 9) : ∀ k, (∀ c, c < k → eu c < 9 ∧ ev c < 9) → hkmu (fun c => π (eu c)) (fun c => π (ev c)) k u v = hkmu eu ev k (ι u) (ι v) := by
  intro k
  induction k with
  | zero => intro _; rfl
  | succ k ih =>
    intro hO
    obtain ⟨o1, o2⟩ := hO k (by omega)
    have eq : ∀ x w, x < 9 → w < 9 → (π x = w ↔ x = ι w) := fun x w hx hw => ⟨fun e => by rw [← e, hp.2.2 x hx], fun e => by rw [e]; exact (hp.2.1 w hw).2⟩
    show hkmu (fun c => π (eu c)) (fun c => π (ev c)) k u v + (if (π (eu k) = u ∧ π (ev k) = v) ∨ (π (eu k) = v ∧ π (ev k) = u) then 1 else 0) = hkmu eu ev k (ι u) (ι v) + (if (eu k = ι u ∧ ev k = ι v) ∨ (eu k = ι v ∧ ev k = ι u) then 1 else 0)
    rw [ih (fun c hc => hO c (by omega))]
    have c1 := eq _ _ o1 hu
    have c2 := eq _ _ o2 hv
    have c3 := eq _ _ o1 hv
    have c4 := eq _ _ o2 hu
    simp only [c1, c2, c3, c4]
theorem hkmu_sy {eu ev : Nat → Nat} {u v : Nat} : ∀ k, hkmu eu ev k u v = hkmu eu ev k v u := by
  intro k
  induction k with
  | zero => rfl
  | succ k ih =>
    show hkmu eu ev k u v + (if (eu k = u ∧ ev k = v) ∨ (eu k = v ∧ ev k = u) then 1 else 0) = hkmu eu ev k v u + (if (eu k = v ∧ ev k = u) ∨ (eu k = u ∧ ev k = v) then 1 else 0)
    rw [ih]
    have : ((eu k = u ∧ ev k = v) ∨ (eu k = v ∧ ev k = u)) ↔ ((eu k = v ∧ ev k = u) ∨ (eu k = u ∧ ev k = v)) := Or.comm
    simp only [this]
/-- the sum of a matrix above its diagonal -/
def ntot (m : Nat → Nat → Nat) : Nat := nS (fun u => nS (fun v => if u < v then m u v else 0) 9) 9
theorem nS_upd {f g : Nat → Nat} {n c t : Nat} (hc : c < n) (h : ∀ i, i < n → i ≠ c → g i = f i) (hg : g c = f c + t) : nS g n = nS f n + t := by
  induction n with
  | zero => omega
  | succ n ih =>
    show nS g n + g n = nS f n + f n + t
    by_cases e : c = n
    · have : nS g n = nS f n := nS_congr (fun i hi => h i (by omega) (by omega))
      rw [this, ← e, hg]
      omega
    · rw [ih (by omega) (fun i hi hne => h i (by omega) hne), h n (by omega) (Ne.symm e)]
      omega
theorem hkmu_tot {eu ev : Nat → Nat} : ∀ k, (∀ c, c < k → eu c < 9 ∧ ev c < 9 ∧ eu c ≠ ev c) → ntot (hkmu eu ev k) = k := by
  intro k
  induction k with
  | zero =>
    intro _
    have z : ∀ (f : Nat → Nat) n, (∀ i, i < n → f i = 0) → nS f n = 0 := fun f n => by
      induction n with
      | zero => intro _; rfl
      | succ n ih =>
        intro h
        show nS f n + f n = 0
        rw [ih (fun i hi => h i (by omega)), h n (by omega)]
    exact z _ 9 (fun u _ => z _ 9 (fun v _ => by split <;> rfl))
  | succ k ih =>
    intro hO
    obtain ⟨o1, o2, o3⟩ := hO k (by omega)
    have i1 := ih (fun c hc => hO c (by omega))
    have main : ∀ a b, a < 9 → b < 9 → a < b → ((eu k = a ∧ ev k = b) ∨ (eu k = b ∧ ev k = a)) → ntot (hkmu eu ev (k + 1)) = ntot (hkmu eu ev k) + 1 := fun a b ha hb hab hp => by
      have same : ∀ u v, u < v → ¬ (u = a ∧ v = b) → hkmu eu ev (k + 1) u v = hkmu eu ev k u v := fun u v huv hne => by
        show hkmu eu ev k u v + (if (eu k = u ∧ ev k = v) ∨ (eu k = v ∧ ev k = u) then 1 else 0) = _
        rw [if_neg (by omega)]
        omega
      refine nS_upd (c := a) ha (fun u hu hne => nS_congr (fun v hv => ?_)) (nS_upd (c := b) hb (fun v hv hne => ?_) ?_)
      · by_cases q : u < v
        · rw [if_pos q, if_pos q, same u v q (fun g => hne g.1)]
        · rw [if_neg q, if_neg q]
      · by_cases q : a < v
        · rw [if_pos q, if_pos q, same a v q (fun g => hne g.2)]
        · rw [if_neg q, if_neg q]
      · rw [if_pos hab, if_pos hab]
        show hkmu eu ev k a b + (if (eu k = a ∧ ev k = b) ∨ (eu k = b ∧ ev k = a) then 1 else 0) = _
        rw [if_pos hp]
    rcases Nat.lt_or_gt_of_ne o3 with g | g
    · rw [main _ _ o1 o2 g (Or.inl ⟨rfl, rfl⟩), i1]
    · rw [main _ _ o2 o1 g (Or.inr ⟨rfl, rfl⟩), i1]
/-- what is wanting: each matrix of sum 10 is good under other names of its nodes -/
theorem ce_of (h : ∀ m : Nat → Nat → Nat, (∀ u v, m u v = m v u) → ntot m = 10 → ∃ π ι, pmN π ι ∧ gdM (fun u v => m (ι u) (ι v))) : hkCE := hkCE_of (fun eu ev hO => by
  obtain ⟨π, ι, hp, hg⟩ := h (hkmu eu ev 10) (fun u v => hkmu_sy 10) (hkmu_tot 10 hO)
  refine hkCE1_pi hO hp.1 hp.2.1 hp.2.2 (gdM_ce (fun c hc => ?_) (gdM_congr (fun u v hu hv => (hkmu_pi hp hu hv 10 (fun c hc => ⟨(hO c hc).1, (hO c hc).2.1⟩)).symm) hg))
  obtain ⟨o1, o2, o3⟩ := hO c hc
  exact ⟨hp.1 _ o1, hp.1 _ o2, fun e => o3 (by rw [← hp.2.2 _ o1, e, hp.2.2 _ o2])⟩)
