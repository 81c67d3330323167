/-! the induction on the number of columns -/
theorem ntot_eq {m m' : Nat → Nat → Nat} (h : eqM m m') : ntot m = ntot m' := nS_congr (fun u hu => nS_congr (fun v hv => by
  show (if u < v then m u v else 0) = (if u < v then m' u v else 0)
  by_cases q : u < v
  · rw [if_pos q, if_pos q, h u v hu hv (by omega)]
  · rw [if_neg q, if_neg q]))
theorem ntot_pl {m : Nat → Nat → Nat} {a b : Nat} (ha : a < 9) (hb : b < 9) (hab : a ≠ b) : ntot (plM m a b) = ntot m + 1 := by
  have main : ∀ p q, p < 9 → q < 9 → p < q → ((a = p ∧ b = q) ∨ (a = q ∧ b = p)) → ntot (plM m a b) = ntot m + 1 := fun p q hp hq hpq e => by
    have same : ∀ u v, u < v → ¬ (u = p ∧ v = q) → plM m a b u v = m u v := fun u v huv hne => by
      unfold plM
      rw [if_neg (by omega)]
      omega
    refine nS_upd (c := p) hp (fun u hu hne => nS_congr (fun v hv => ?_)) (nS_upd (c := q) hq (fun v hv hne => ?_) ?_)
    · by_cases g : u < v
      · rw [if_pos g, if_pos g, same u v g (fun x => hne x.1)]
      · rw [if_neg g, if_neg g]
    · by_cases g : p < v
      · rw [if_pos g, if_pos g, same p v g (fun x => hne x.2)]
      · rw [if_neg g, if_neg g]
    · rw [if_pos hpq, if_pos hpq]
      unfold plM
      rw [if_pos (by omega)]
  rcases Nat.lt_or_gt_of_ne hab with g | g
  · exact main a b ha hb g (Or.inl ⟨rfl, rfl⟩)
  · exact main b a hb ha g (Or.inr ⟨rfl, rfl⟩)
theorem iso_ind {Rep : Nat → (Nat → Nat → Nat) → Prop} {N : Nat} (h0 : ∀ m : Nat → Nat → Nat, (∀ u v, m u v = m v u) → ntot m = 0 → ∃ R, Rep 0 R ∧ eqM m R)
    (hs : ∀ k, k < N → ∀ R, Rep k R → ∀ a b, a < 9 → b < 9 → a ≠ b → lsM (plM R a b) a b → ∃ ρ ρ', pmN ρ ρ' ∧ ∃ R', Rep (k + 1) R' ∧ eqM (fun u v => plM R a b (ρ' u) (ρ' v)) R') :
    ∀ k, k ≤ N → ∀ m : Nat → Nat → Nat, (∀ u v, m u v = m v u) → ntot m = k → ∃ π ι, pmN π ι ∧ ∃ R, Rep k R ∧ eqM (fun u v => m (ι u) (ι v)) R := by
  intro k
  induction k with
  | zero =>
    intro _ m hsy ht
    obtain ⟨R, r1, r2⟩ := h0 m hsy ht
    exact ⟨_, _, pmN.id, R, r1, r2⟩
  | succ k ih =>
    intro hk m hsy ht
    have ex : ∃ a b, a < 9 ∧ b < 9 ∧ a ≠ b ∧ 0 < m a b := Classical.byContradiction fun no => by
      have : ntot m = 0 := nS_z (fun u hu => nS_z (fun v hv => by
        by_cases q : u < v
        · rw [if_pos q]
          refine Nat.eq_zero_of_not_pos (fun g => no ⟨u, v, hu, hv, by omega, g⟩)
        · rw [if_neg q]))
      omega
    obtain ⟨a, b, a1, b1, ab, l⟩ := ls_ex hsy ex
    have l1 := l.1
    have l2 : 0 < m b a := by rw [hsy b a]; exact l1
    have m0 : ∃ m0 : Nat → Nat → Nat, (∀ u v, m0 u v = m0 v u) ∧ ∀ u v, m u v = plM m0 a b u v := by
      refine ⟨fun u v => m u v - if (u = a ∧ v = b) ∨ (u = b ∧ v = a) then 1 else 0, fun u v => ?_, fun u v => ?_⟩
      · have : ((u = a ∧ v = b) ∨ (u = b ∧ v = a)) ↔ ((v = a ∧ u = b) ∨ (v = b ∧ u = a)) := by omega
        show m u v - (if (u = a ∧ v = b) ∨ (u = b ∧ v = a) then 1 else 0) = m v u - (if (v = a ∧ u = b) ∨ (v = b ∧ u = a) then 1 else 0)
        rw [hsy u v]
        simp only [this]
      · show m u v = m u v - (if (u = a ∧ v = b) ∨ (u = b ∧ v = a) then 1 else 0) + (if (u = a ∧ v = b) ∨ (u = b ∧ v = a) then 1 else 0)
        by_cases q : (u = a ∧ v = b) ∨ (u = b ∧ v = a)
        · rw [if_pos q]
          have : 0 < m u v := by
            rcases q with ⟨e1, e2⟩ | ⟨e1, e2⟩
            · rw [e1, e2]; exact l1
            · rw [e1, e2]; exact l2
          omega
        · rw [if_neg q]; omega
    obtain ⟨m0, s0, e0⟩ := m0
    have t0 : ntot m0 = k := by
      have x1 := ntot_pl (m := m0) a1 b1 ab
      have x2 := ntot_eq (m := m) (m' := plM m0 a b) (fun u v _ _ _ => e0 u v)
      omega
    obtain ⟨π, ι, hp, R, r1, r2⟩ := ih (by omega) m0 s0 t0
    have pa := hp.1 a a1
    have pb := hp.1 b b1
    have pab : π a ≠ π b := fun e => ab (by rw [← hp.2.2 a a1, e, hp.2.2 b b1])
    have eqq : eqM (fun u v => m (ι u) (ι v)) (plM R (π a) (π b)) := fun u v hu hv hne => by
      show m (ι u) (ι v) = R u v + (if (u = π a ∧ v = π b) ∨ (u = π b ∧ v = π a) then 1 else 0)
      rw [e0, ← r2 u v hu hv hne]
      show m0 (ι u) (ι v) + (if (ι u = a ∧ ι v = b) ∨ (ι u = b ∧ ι v = a) then 1 else 0) = m0 (ι u) (ι v) + (if (u = π a ∧ v = π b) ∨ (u = π b ∧ v = π a) then 1 else 0)
      have iff1 : ∀ x w, x < 9 → w < 9 → (ι w = x ↔ w = π x) := fun x w hx hw => ⟨fun e => by rw [← e, (hp.2.1 w hw).2], fun e => by rw [e, hp.2.2 x hx]⟩
      simp only [iff1 a u a1 hu, iff1 b v b1 hv, iff1 b u b1 hu, iff1 a v a1 hv]
    have ls := lsM_eq eqq pa pb pab (lsM_pm hp a1 b1 l)
    obtain ⟨ρ, ρ', hq, R', q1, q2⟩ := hs k (by omega) R r1 (π a) (π b) pa pb pab ls
    refine ⟨_, _, hp.tr hq, R', q1, fun u v hu hv hne => ?_⟩
    show m (ι (ρ' u)) (ι (ρ' v)) = R' u v
    have n2 : ρ' u ≠ ρ' v := fun e => hne (by rw [← (hq.2.1 u hu).2, e, (hq.2.1 v hv).2])
    rw [← q2 u v hu hv hne]
    exact eqq (ρ' u) (ρ' v) (hq.2.1 u hu).1 (hq.2.1 v hv).1 n2
