/-! hkCE out of a list of matrices -/
theorem gdM_eq {m m' : Nat → Nat → Nat} (h : eqM m m') (g : gdM m) : gdM m' := by
  obtain ⟨f, b, K, rows, a1, a2, a3, a4, a5, a6, a7, a8⟩ := g
  have e1 : nmx m f b = nmx m' f b := nS_congr (fun v hv => by
    show (f v + b) * (ndg m v * ndg m v) + f v * ndg m v = (f v + b) * (ndg m' v * ndg m' v) + f v * ndg m' v
    rw [ndg_eq h hv])
  have e2 : nxx m f = nxx m' f := nP_congr (fun u hu => nP_congr (fun v hv => by
    show (if u < v then (f u + f v) ^ m u v else 1) = (if u < v then (f u + f v) ^ m' u v else 1)
    by_cases q : u < v
    · rw [if_pos q, if_pos q, h u v hu hv (by omega)]
    · rw [if_neg q, if_neg q]))
  refine ⟨f, b, K, rows, a1, a2, a3, a4, a5, a6, fun u v hu hv hne => ?_, ?_⟩
  · rw [← h u v hu hv hne]; exact a7 u v hu hv hne
  · rw [← e1, ← e2]; exact a8
theorem ce_fin {Rep : Nat → (Nat → Nat → Nat) → Prop} (h0 : ∀ m : Nat → Nat → Nat, ntot m = 0 → ∃ R, Rep 0 R ∧ eqM m R)
    (hs : ∀ k, k < 9 → ∀ R, Rep k R → ∀ a b, a < 9 → b < 9 → a ≠ b → lsM (plM R a b) a b → ∃ ρ ρ', pmN ρ ρ' ∧ ∃ R', Rep (k + 1) R' ∧ eqM (fun u v => plM R a b (ρ' u) (ρ' v)) R')
    (hl : ∀ R, Rep 9 R → ∀ a b, a < 9 → b < 9 → a ≠ b → lsM (plM R a b) a b → ∃ ρ ρ', pmN ρ ρ' ∧ gdM (fun u v => plM R a b (ρ' u) (ρ' v))) : hkCE := ce_of (fun m hsy ht => by
  obtain ⟨π, ι, hp, R, r1, r2⟩ := iso_ind (Rep := fun k R => (k < 10 ∧ Rep k R) ∨ (k = 10 ∧ gdM R)) (N := 10) (fun m hm => by
      obtain ⟨R, r1, r2⟩ := h0 m hm
      exact ⟨R, Or.inl ⟨by omega, r1⟩, r2⟩) (fun k hk R hR a b ha hb hab hls => by
      rcases hR with ⟨_, hR⟩ | ⟨e, _⟩
      · by_cases q : k = 9
        · subst q
          obtain ⟨ρ, ρ', g1, g2⟩ := hl R hR a b ha hb hab hls
          exact ⟨ρ, ρ', g1, _, Or.inr ⟨rfl, g2⟩, fun _ _ _ _ _ => rfl⟩
        · obtain ⟨ρ, ρ', g1, R', g2, g3⟩ := hs k (by omega) R hR a b ha hb hab hls
          exact ⟨ρ, ρ', g1, R', Or.inl ⟨by omega, g2⟩, g3⟩
      · omega) 10 (Nat.le_refl _) m hsy ht
  rcases r1 with ⟨g, _⟩ | ⟨_, g⟩
  · exact absurd g (by omega)
  · exact ⟨π, ι, hp, gdM_eq (fun u v hu hv hne => (r2 u v hu hv hne).symm) g⟩)
