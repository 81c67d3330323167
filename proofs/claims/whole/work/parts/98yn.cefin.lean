/-! hkCE out of a list of matrices -/
theorem gdM_eq {m m' : Nat → Nat → Nat} (h : eqM m m') (g : gdM m) : gdM m' := by
  obtain ⟨f, b, K, rows, a1, a2, a3, a4, a5, a6, a7, a8⟩ := g
  have e1 : nmx m f b = nmx m' f b := nS_congr (fun v hv => by
    show (f v + b) * (ndg m v * ndg m v) + f v * ndg m v = (f v + b) * (ndg m' v * ndg m' v) + f v * ndg m' v
    rw [ndg_eq h hv])
  have e2 : nxx m f = nxx m' f := nP_congr (fun u hu => nP_congr (fun v hv => by
    show (if u < v then (f u + f v) ^ m u v else 1) = (if u < v then (f u + f v) ^ m' u v else 1)
    by_cases q : u < v
    · rw [if_pos q, if_pos q, h u v hu hv (by omega)]
    · rw [if_neg q, if_neg q]))
  refine ⟨f, b, K, rows, a1, a2, a3, a4, a5, a6, fun u v hu hv hne => ?_, ?_⟩
  · rw [← h u v hu hv hne]; exact a7 u v hu hv hne
  · rw [← e1, ← e2]; exact a8
