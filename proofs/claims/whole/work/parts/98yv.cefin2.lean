/-! hkCE out of a list of matrices, with th and pieces -/
def gdT (m : Nat → Nat → Nat) : Prop := ∃ (f : Nat → Nat) (b K M : Nat) (th : Nat → Nat → Nat) (rows : List (List Nat)), (∀ v, v < 9 → 0 < f v) ∧ 0 < K ∧ zgH 9 rows ∧ (∀ v, v < 9 → 0 < zgR rows v) ∧
  (∀ v, v < 9 → zgR rows v * (f v + b) ≤ K) ∧ (∀ u v, u < v → v < 9 → zgK rows u v * (f u + f v - (m u v - 1) * th u v) ≤ K * m u v) ∧
  (∀ u v, u < v → v < 9 → 2 ≤ m u v → (m u v - 1) * th u v < f u + f v ∧ f u + f v + th u v ≤ nS f 9 + b) ∧ nmx m f b ≤ M + nth m th ∧
  400 * (2 * nS f 9 + 2 * b) ^ 9 * M * K ^ 9 < 387420489 * nxTh m f th * nP (fun v => f v + b) 9 * zfE 9 rows
theorem gdT_eq {m m' : Nat → Nat → Nat} (h : eqM m m') (g : gdT m) : gdT m' := by
  obtain ⟨f, b, K, M, th, rows, a1, a2, a3, a4, a5, a6, a7, a8, a9⟩ := g
  have hl : ∀ u v, u < v → v < 9 → m u v = m' u v := fun u v huv hv => h u v (by omega) hv (by omega)
  have e1 : nmx m f b = nmx m' f b := nS_congr (fun v hv => by
    show (f v + b) * (ndg m v * ndg m v) + f v * ndg m v = (f v + b) * (ndg m' v * ndg m' v) + f v * ndg m' v
    rw [ndg_eq h hv])
  have e2 : nxTh m f th = nxTh m' f th := nP_congr (fun u hu => nP_congr (fun v hv => by
    show (if u < v then bnN (m u v) (f u + f v) (th u v) else 1) = (if u < v then bnN (m' u v) (f u + f v) (th u v) else 1)
    by_cases q : u < v
    · rw [if_pos q, if_pos q, hl u v q hv]
    · rw [if_neg q, if_neg q]))
  have e3 : nth m th = nth m' th := nS_congr (fun u hu => nS_congr (fun v hv => by
    show (if u < v then m u v * (m u v - 1) * th u v else 0) = (if u < v then m' u v * (m' u v - 1) * th u v else 0)
    by_cases q : u < v
    · rw [if_pos q, if_pos q, hl u v q hv]
    · rw [if_neg q, if_neg q]))
  refine ⟨f, b, K, M, th, rows, a1, a2, a3, a4, a5, fun u v huv hv => ?_, fun u v huv hv => ?_, ?_, ?_⟩
  · rw [← hl u v huv hv]; exact a6 u v huv hv
  · rw [← hl u v huv hv]; exact a7 u v huv hv
  · rw [← e1, ← e3]; exact a8
  · rw [← e2]; exact a9
theorem gdT_ce {eu ev : Nat → Nat} (hO : ∀ c, c < 10 → eu c < 9 ∧ ev c < 9 ∧ eu c ≠ ev c) (g : gdT (hkmu eu ev 10)) : hkCE1 eu ev := by
  have g2 : gdT (hkmu (or1 eu ev) (or2 eu ev) 10) := gdT_eq (fun u v _ _ _ => (hkmu_or 10).symm) g
  obtain ⟨f, b, K, M, th, rows, a1, a2, a3, a4, a5, a6, a7, a8, a9⟩ := g2
  refine hkCE1_or (hk_leafT (fun c hc => ?_) a1 a2 a3 a4 a5 a6 a7 a8 a9)
  obtain ⟨o1, o2, o3⟩ := hO c hc
  unfold or1 or2
  by_cases q : eu c < ev c
  · rw [if_pos q, if_pos q]; exact ⟨q, o2⟩
  · rw [if_neg q, if_neg q]; exact ⟨by omega, o1⟩
theorem ce_fin2 {Rep : Nat → (Nat → Nat → Nat) → Prop} (h0 : ∀ m : Nat → Nat → Nat, (∀ u v, m u v = m v u) → ntot m = 0 → ∃ R, Rep 0 R ∧ eqM m R)
    (hs : ∀ k, k < 9 → ∀ R, Rep k R → ∀ a b, a < 9 → b < 9 → a ≠ b → lsM (plM R a b) a b → ∃ ρ ρ', pmN ρ ρ' ∧ ∃ R', Rep (k + 1) R' ∧ eqM (fun u v => plM R a b (ρ' u) (ρ' v)) R')
    (hl : ∀ R, Rep 9 R → ∀ a b, a < 9 → b < 9 → a ≠ b → lsM (plM R a b) a b → ∃ ρ ρ', pmN ρ ρ' ∧ (gdT (fun u v => plM R a b (ρ' u) (ρ' v)) ∨ dcM (fun u v => plM R a b (ρ' u) (ρ' v)))) : hkCE := hkCE_of (fun eu ev hO => by
  refine ce_ind (fun eu ev hO => ?_) _ eu ev hO (Nat.lt_succ_self _)
  obtain ⟨π, ι, hp, R, r1, r2⟩ := iso_ind (Rep := fun k R => (k < 10 ∧ Rep k R) ∨ (k = 10 ∧ (gdT R ∨ dcM R))) (N := 10) (fun m hsy hm => by
      obtain ⟨R, r1, r2⟩ := h0 m hsy hm
      exact ⟨R, Or.inl ⟨by omega, r1⟩, r2⟩) (fun k hk R hR a b ha hb hab hls => by
      rcases hR with ⟨_, hR⟩ | ⟨e, _⟩
      · by_cases q : k = 9
        · subst q
          obtain ⟨ρ, ρ', g1, g2⟩ := hl R hR a b ha hb hab hls
          exact ⟨ρ, ρ', g1, _, Or.inr ⟨rfl, g2⟩, fun _ _ _ _ _ => rfl⟩
        · obtain ⟨ρ, ρ', g1, R', g2, g3⟩ := hs k (by omega) R hR a b ha hb hab hls
          exact ⟨ρ, ρ', g1, R', Or.inl ⟨by omega, g2⟩, g3⟩
      · omega) 10 (Nat.le_refl _) (hkmu eu ev 10) (fun u v => hkmu_sy 10) (hkmu_tot 10 hO)
  rcases r1 with ⟨g, _⟩ | ⟨_, g | g⟩
  · exact absurd g (by omega)
  · left
    have g2 : gdT (hkmu (fun c => π (eu c)) (fun c => π (ev c)) 10) := gdT_eq (fun u v hu hv hne => by
      rw [hkmu_pi hp hu hv 10 (fun c hc => ⟨(hO c hc).1, (hO c hc).2.1⟩)]
      exact (r2 u v hu hv hne).symm) g
    refine hkCE1_pi hO hp.1 hp.2.1 hp.2.2 (gdT_ce (fun c hc => ?_) g2)
    obtain ⟨o1, o2, o3⟩ := hO c hc
    exact ⟨hp.1 _ o1, hp.1 _ o2, fun e => o3 (by rw [← hp.2.2 _ o1, e, hp.2.2 _ o2])⟩
  · right
    exact dcM_E hO hp (dcM_eq (fun u v hu hv hne => (r2 u v hu hv hne).symm) g))
/-- isolated nodes are alike -/
def gdP (X : (Nat → Nat → Nat) → Prop) (R : Nat → Nat → Nat) (a b : Nat) : Prop := lsM (plM R a b) a b → ∃ ρ ρ', pmN ρ ρ' ∧ X (fun u v => plM R a b (ρ' u) (ρ' v))
def swp (p q v : Nat) : Nat := if v = p then q else if v = q then p else v
theorem swp_inv (p q v : Nat) : swp p q (swp p q v) = v := by
  unfold swp
  by_cases h1 : v = p
  · rw [if_pos h1]
    by_cases h2 : q = p
    · rw [if_pos h2]; omega
    · rw [if_neg h2, if_pos rfl]; omega
  · rw [if_neg h1]
    by_cases h2 : v = q
    · rw [if_pos h2, if_pos rfl]; omega
    · rw [if_neg h2, if_neg h1, if_neg h2]
theorem swp_pm {p q : Nat} (hp : p < 9) (hq : q < 9) : pmN (swp p q) (swp p q) := by
  have lt : ∀ v, v < 9 → swp p q v < 9 := fun v hv => by unfold swp; split; exact hq; split; exact hp; exact hv
  exact ⟨lt, fun w hw => ⟨lt w hw, swp_inv p q w⟩, fun v _ => swp_inv p q v⟩
theorem plM_cm (R : Nat → Nat → Nat) (a b : Nat) : plM R a b = plM R b a := by
  funext u v
  unfold plM
  have : ((u = a ∧ v = b) ∨ (u = b ∧ v = a)) ↔ ((u = b ∧ v = a) ∨ (u = a ∧ v = b)) := Or.comm
  simp only [this]
theorem gdP_cm {X : (Nat → Nat → Nat) → Prop} {R : Nat → Nat → Nat} {a b : Nat} (h : gdP X R b a) : gdP X R a b := fun l => by
  have l2 : lsM (plM R b a) b a := by
    rw [plM_cm R b a]
    refine ⟨by unfold plM; rw [if_pos (Or.inr ⟨rfl, rfl⟩)]; omega, fun u v hu hv hne hp => ?_⟩
    have := l.2 u v hu hv hne hp
    have e : rkM (plM R a b) b a = rkM (plM R a b) a b := by unfold rkM; rw [Nat.min_comm, Nat.max_comm]
    rw [e]; exact this
  have := h l2
  rw [plM_cm R b a] at this
  exact this
theorem gdP_tr {X : (Nat → Nat → Nat) → Prop} (hX : ∀ m m', eqM m m' → X m → X m') {R : Nat → Nat → Nat} {nu : Nat} (hs : ∀ u v, R u v = R v u) (h0 : ∀ u v, u < 9 → v < 9 → u ≠ v → nu ≤ v → R u v = 0) {p q : Nat} (hp : p < 9) (hq : q < 9) (p0 : nu ≤ p) (q0 : nu ≤ q) {a b : Nat} (ha : a < 9) (hb : b < 9) (hab : a ≠ b) (h : gdP X R (swp p q a) (swp p q b)) : gdP X R a b := fun l => by
  have pm := swp_pm hp hq
  have inj : ∀ x y, x ≠ y → swp p q x ≠ swp p q y := fun x y hne e => hne (by rw [← swp_inv p q x, e, swp_inv])
  have iff1 : ∀ x y, (swp p q x = y ↔ x = swp p q y) := fun x y => ⟨fun e => by rw [← e, swp_inv], fun e => by rw [e, swp_inv]⟩
  have out : ∀ v, v = p ∨ v = q → nu ≤ v ∧ nu ≤ swp p q v := fun v g => by
    unfold swp
    rcases g with g | g
    · rw [if_pos g]; omega
    · by_cases k : v = p
      · rw [if_pos k]; omega
      · rw [if_neg k, if_pos g]; omega
  have fix : ∀ v, ¬ (v = p ∨ v = q) → swp p q v = v := fun v g => by
    unfold swp
    rw [if_neg (fun k => g (Or.inl k)), if_neg (fun k => g (Or.inr k))]
  have Re : ∀ u v, u < 9 → v < 9 → u ≠ v → R (swp p q u) (swp p q v) = R u v := fun u v hu hv hne => by
    by_cases g1 : v = p ∨ v = q
    · rw [h0 u v hu hv hne (out v g1).1, h0 _ _ (pm.1 u hu) (pm.1 v hv) (inj u v hne) (out v g1).2]
    · by_cases g2 : u = p ∨ u = q
      · rw [hs u v, hs (swp p q u), h0 v u hv hu (Ne.symm hne) (out u g2).1, h0 _ _ (pm.1 v hv) (pm.1 u hu) (inj v u (Ne.symm hne)) (out u g2).2]
      · rw [fix u g2, fix v g1]
  have eqq : ∀ u v, u < 9 → v < 9 → u ≠ v → plM R a b (swp p q u) (swp p q v) = plM R (swp p q a) (swp p q b) u v := fun u v hu hv hne => by
    unfold plM
    rw [Re u v hu hv hne]
    simp only [iff1]
  obtain ⟨ρ, ρ', r1, r2⟩ := h (lsM_eq (fun u v hu hv hne => eqq u v hu hv hne) (pm.1 a ha) (pm.1 b hb) (inj a b hab) (lsM_pm pm ha hb l))
  refine ⟨_, _, pm.tr r1, hX _ _ (fun u v hu hv hne => ?_) r2⟩
  have n2 : ρ' u ≠ ρ' v := fun e => hne (by rw [← (r1.2.1 u hu).2, e, (r1.2.1 v hv).2])
  exact (eqq (ρ' u) (ρ' v) (r1.2.1 u hu).1 (r1.2.1 v hv).1 n2).symm
theorem iso_red {X : (Nat → Nat → Nat) → Prop} (hX : ∀ m m', eqM m m' → X m → X m') {R : Nat → Nat → Nat} {nu : Nat} (hs : ∀ u v, R u v = R v u) (h0 : ∀ u v, u < 9 → v < 9 → u ≠ v → nu ≤ v → R u v = 0)
    (hg : ∀ a b, a < b → b < 9 → (b ≤ nu ∨ (a = nu ∧ b = nu + 1)) → gdP X R a b) : ∀ a b, a < 9 → b < 9 → a ≠ b → gdP X R a b := by
  have main : ∀ a b, a < b → b < 9 → gdP X R a b := fun a b hab hb => by
    by_cases q : b ≤ nu
    · exact hg a b hab hb (Or.inl q)
    · by_cases q2 : a < nu
      · refine gdP_tr hX hs h0 (p := b) (q := nu) hb (by omega) (by omega) (Nat.le_refl _) (by omega) hb (by omega) ?_
        have e1 : swp b nu a = a := by unfold swp; rw [if_neg (by omega), if_neg (by omega)]
        have e2 : swp b nu b = nu := by unfold swp; rw [if_pos rfl]
        rw [e1, e2]
        exact hg a nu q2 (by omega) (Or.inl (Nat.le_refl _))
      · refine gdP_tr hX hs h0 (p := a) (q := nu) (by omega) (by omega) (by omega) (Nat.le_refl _) (by omega) hb (by omega) ?_
        have e1 : swp a nu a = nu := by unfold swp; rw [if_pos rfl]
        have e2 : swp a nu b = b := by unfold swp; rw [if_neg (by omega), if_neg (by omega)]
        rw [e1, e2]
        refine gdP_tr hX hs h0 (p := b) (q := nu + 1) hb (by omega) (by omega) (by omega) (by omega) hb (by omega) ?_
        have e3 : swp b (nu + 1) nu = nu := by unfold swp; rw [if_neg (by omega), if_neg (by omega)]
        have e4 : swp b (nu + 1) b = nu + 1 := by unfold swp; rw [if_pos rfl]
        rw [e3, e4]
        exact hg nu (nu + 1) (by omega) (by omega) (Or.inr ⟨rfl, rfl⟩)
  intro a b ha hb hab
  rcases Nat.lt_or_gt_of_ne hab with g | g
  · exact main a b g hb
  · exact gdP_cm (main b a g ha)
