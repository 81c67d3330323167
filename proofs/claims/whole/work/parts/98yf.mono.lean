/-! a larger form has larger pivots -/
theorem hkQ_e0 {n : Nat} {G : Nat → Nat → Rat} (hs : hky G) (h0 : G 0 0 ≠ 0) : hkQ (n + 1) G (fun i => if i = 0 then 1 else 0) = G 0 0 := by
  rw [hkQ_succ hs h0]
  have t1 : hR n (fun j => G 0 (j + 1) * (if j + 1 = 0 then 1 else 0)) = 0 := hR_0 (fun j _ => by rw [if_neg (by omega)]; grind)
  have t2 : hkQ n (hkS G) (fun i => if i + 1 = 0 then 1 else 0) = 0 := hR_0 (fun i _ => hR_0 (fun j _ => by
    show hkS G i j * (if i + 1 = 0 then 1 else 0) * (if j + 1 = 0 then 1 else 0) = 0
    have : ¬ j + 1 = 0 := by omega
    rw [if_neg this]; grind))
  rw [t1, t2, if_pos rfl]
  grind
theorem hkQ_min {n : Nat} {G : Nat → Nat → Rat} (hs : hky G) (h0 : G 0 0 ≠ 0) (μ : Nat → Rat) : hkQ (n + 1) G (fun j => if j = 0 then -(hR n (fun j => G 0 (j + 1) * μ j) / G 0 0) else μ (j - 1)) = hkQ n (hkS G) μ := by
  rw [hkQ_succ hs h0]
  have t1 : (fun j => G 0 (j + 1) * (if j + 1 = 0 then -(hR n (fun j => G 0 (j + 1) * μ j) / G 0 0) else μ (j + 1 - 1))) = fun j => G 0 (j + 1) * μ j := funext fun j => by
    rw [if_neg (by omega)]; rfl
  have t2 : (fun i => if i + 1 = 0 then -(hR n (fun j => G 0 (j + 1) * μ j) / G 0 0) else μ (i + 1 - 1)) = μ := funext fun i => by
    rw [if_neg (by omega)]; rfl
  rw [t1, t2, if_pos rfl]
  grind
theorem hkD_mono {n : Nat} : ∀ {G H : Nat → Nat → Rat}, hky G → hky H → hkP n G → (∀ z, hkQ n G z ≤ hkQ n H z) → hkP n H ∧ hkD n G ≤ hkD n H := by
  induction n with
  | zero => intro G H _ _ _ _; exact ⟨trivial, by show (1 : Rat) ≤ 1; grind⟩
  | succ n ih =>
    intro G H hG hH h hz
    have PH : hkP (n + 1) H := hkP_of hH (fun z q => by
      have a := hkQ_pd hG h z q
      have b := hz z
      grind)
    have g0 := h.1
    have h0 := PH.1
    have e0 := hz (fun i => if i = 0 then 1 else 0)
    rw [hkQ_e0 hG (by grind), hkQ_e0 hH (by grind)] at e0
    have i1 := ih hG.s hH.s h.2 (fun μ => by
      have a := hz (fun j => if j = 0 then -(hR n (fun j => H 0 (j + 1) * μ j) / H 0 0) else μ (j - 1))
      rw [hkQ_min hH (by grind), hkQ_succ hG (by grind)] at a
      have t2 : (fun i => if i + 1 = 0 then -(hR n (fun j => H 0 (j + 1) * μ j) / H 0 0) else μ (i + 1 - 1)) = μ := funext fun i => by
        rw [if_neg (by omega)]; rfl
      rw [t2] at a
      have b := Rat.mul_nonneg (a := G 0 0) (by grind) (rsq ((if 0 = 0 then -(hR n (fun j => H 0 (j + 1) * μ j) / H 0 0) else μ (0 - 1)) + hR n (fun j => G 0 (j + 1) * (if j + 1 = 0 then -(hR n (fun j => H 0 (j + 1) * μ j) / H 0 0) else μ (j + 1 - 1))) / G 0 0))
      grind)
    have p := hkD_pos h.2
    exact ⟨PH, rmul_le e0 i1.2 (by grind) (by grind)⟩
/-- the form of nodes, as a sum of squares -/
theorem hkLp_Q {n : Nat} {r : Nat → Rat} {k : Nat → Nat → Rat} (hs : ∀ u v, k u v = k v u) (z : Nat → Rat) :
    2 * hkQ n (hkLp n r k) z = 2 * hR n (fun u => r u * (z u * z u)) + hR n (fun u => hR n (fun v => if v = u then 0 else k u v * ((z u - z v) * (z u - z v)))) := by
  have e1 : ∀ u, u < n → hR n (fun v => hkLp n r k u v * z u * z v) = r u * (z u * z u) + hR n (fun v => if v = u then 0 else k u v * (z u * z u - z u * z v)) := fun u hu => by
    have t1 : hR n (fun v => hkLp n r k u v * z u * z v) = hR n (fun v => (if v = u then (r u + hR n (fun w => if w = u then 0 else k u w)) * z u * z u else 0) + (if v = u then 0 else (-1) * (k u v * (z u * z v)))) := hR_congr (fun v _ => by
      unfold hkLp
      by_cases q : v = u
      · rw [if_pos q.symm, if_pos q, if_pos q, q]; grind
      · rw [if_neg (Ne.symm q), if_neg q, if_neg q]; grind)
    rw [t1, hR_add, hR_one (c := u) (f := fun v => if v = u then (r u + hR n (fun w => if w = u then 0 else k u w)) * z u * z u else 0) hu (fun v _ hne => by rw [if_neg hne]), if_pos rfl]
    have t2 : hR n (fun v => if v = u then 0 else k u v * (z u * z u - z u * z v)) = (z u * z u) * hR n (fun w => if w = u then 0 else k u w) + hR n (fun v => if v = u then 0 else (-1) * (k u v * (z u * z v))) := by
      rw [← hR_mul, ← hR_add]
      exact hR_congr (fun v _ => by
        by_cases q : v = u
        · rw [if_pos q, if_pos q, if_pos q]; grind
        · rw [if_neg q, if_neg q, if_neg q]; grind)
    rw [t2]
    grind
  unfold hkQ
  rw [hR_congr e1, hR_add]
  have e2 : hR n (fun u => hR n (fun v => if v = u then 0 else k u v * ((z u - z v) * (z u - z v)))) = 2 * hR n (fun u => hR n (fun v => if v = u then 0 else k u v * (z u * z u - z u * z v))) := by
    have t : hR n (fun u => hR n (fun v => if v = u then 0 else k u v * ((z u - z v) * (z u - z v)))) = hR n (fun u => hR n (fun v => (if v = u then 0 else k u v * (z u * z u - z u * z v)) + (if u = v then 0 else k v u * (z v * z v - z v * z u)))) := hR_congr (fun u _ => hR_congr (fun v _ => by
      by_cases q : v = u
      · rw [if_pos q, if_pos q, if_pos q.symm]; grind
      · rw [if_neg q, if_neg q, if_neg (Ne.symm q), hs v u]; grind))
    rw [t, hR_congr (fun u _ => hR_add _ _), hR_add]
    have t2 : hR n (fun u => hR n (fun v => if u = v then 0 else k v u * (z v * z v - z v * z u))) = hR n (fun u => hR n (fun v => if v = u then 0 else k u v * (z u * z u - z u * z v))) := by
      rw [hR_swap]
    rw [t2]
    grind
  rw [e2]
  grind
