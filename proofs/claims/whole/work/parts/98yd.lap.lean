/-! forms of nodes: one node taken out -/
def hkLp (n : Nat) (r : Nat → Rat) (k : Nat → Nat → Rat) : Nat → Nat → Rat := fun u v => if u = v then r u + hR n (fun w => if w = u then 0 else k u w) else -k u v
theorem hkD_sc {n : Nat} : ∀ {G : Nat → Nat → Rat} {s : Rat}, s ≠ 0 → hkD n (fun i j => s * G i j) = s ^ n * hkD n G := by
  induction n with
  | zero => intro G s _; show (1 : Rat) = s ^ 0 * 1; grind
  | succ n ih =>
    intro G s hs
    have e : hkS (fun i j => s * G i j) = fun i j => s * hkS G i j := by
      funext i j
      show s * G (i + 1) (j + 1) - s * G (i + 1) 0 * (s * G 0 (j + 1)) / (s * G 0 0) = s * (G (i + 1) (j + 1) - G (i + 1) 0 * G 0 (j + 1) / G 0 0)
      rcases Classical.em (G 0 0 = 0) with z | z
      · rw [z]
        have e1 : s * 0 = 0 := by grind
        rw [e1]
        have e2 : ∀ x : Rat, x / 0 = 0 := fun x => by grind
        rw [e2, e2]
        grind
      · have e1 : s * G (i + 1) 0 * (s * G 0 (j + 1)) / (s * G 0 0) = s * (G (i + 1) 0 * G 0 (j + 1) / G 0 0) := by
          generalize G 0 0 = a at *
          generalize G (i + 1) 0 = x
          generalize G 0 (j + 1) = y
          have : s * a ≠ 0 := fun q => by
            have : a = s⁻¹ * (s * a) := by grind
            rw [q] at this
            grind
          have k : (s * x * (s * y) / (s * a)) * (s * a) = (s * (x * y / a)) * (s * a) := by
            have k1 : (s * x * (s * y) / (s * a)) * (s * a) = s * x * (s * y) := by
              generalize s * a = q at *
              grind
            have k2 : (s * (x * y / a)) * (s * a) = s * x * (s * y) := by grind
            rw [k1, k2]
          generalize s * x * (s * y) / (s * a) = A at *
          generalize s * (x * y / a) = B at *
          generalize s * a = q at *
          have : A = A * q * q⁻¹ := by grind
          rw [this, k]
          grind
        rw [e1]
        grind
    show s * G 0 0 * hkD n (hkS (fun i j => s * G i j)) = s ^ (n + 1) * (G 0 0 * hkD n (hkS G))
    rw [e, ih hs]
    have : s ^ (n + 1) = s * s ^ n := by grind
    rw [this]
    grind
theorem hkLp_S {n : Nat} {r : Nat → Rat} {k : Nat → Nat → Rat} (hs : ∀ u v, k u v = k v u) (hκ : r 0 + hR n (fun w => k 0 (w + 1)) ≠ 0) (u v : Nat) (hu : u < n) (hv : v < n) :
    hkS (hkLp (n + 1) r k) u v = 1 / (r 0 + hR n (fun w => k 0 (w + 1))) * hkLp n (fun u => (r 0 + hR n (fun w => k 0 (w + 1))) * r (u + 1) + k 0 (u + 1) * r 0) (fun u v => (r 0 + hR n (fun w => k 0 (w + 1))) * k (u + 1) (v + 1) + k 0 (u + 1) * k 0 (v + 1)) u v := by
  have d0 : hkLp (n + 1) r k 0 0 = r 0 + hR n (fun w => k 0 (w + 1)) := by
    show (if 0 = 0 then r 0 + ((if 0 = 0 then 0 else k 0 0) + hR n (fun w => if w + 1 = 0 then 0 else k 0 (w + 1))) else -k 0 0) = _
    rw [if_pos rfl, if_pos rfl, hR_congr (f := fun w => if w + 1 = 0 then 0 else k 0 (w + 1)) (g := fun w => k 0 (w + 1)) (fun w _ => by rw [if_neg (by omega)])]
    grind
  generalize hq : r 0 + hR n (fun w => k 0 (w + 1)) = κ at *
  have o1 : hkLp (n + 1) r k (u + 1) 0 = -k 0 (u + 1) := by
    show (if u + 1 = 0 then _ else -k (u + 1) 0) = _
    rw [if_neg (by omega), hs]
  have o2 : hkLp (n + 1) r k 0 (v + 1) = -k 0 (v + 1) := by
    show (if 0 = v + 1 then _ else -k 0 (v + 1)) = _
    rw [if_neg (by omega)]
  show hkLp (n + 1) r k (u + 1) (v + 1) - hkLp (n + 1) r k (u + 1) 0 * hkLp (n + 1) r k 0 (v + 1) / hkLp (n + 1) r k 0 0 = _
  rw [d0, o1, o2]
  by_cases e : u = v
  · subst e
    have s1 : hkLp (n + 1) r k (u + 1) (u + 1) = r (u + 1) + k 0 (u + 1) + hR n (fun w => if w = u then 0 else k (u + 1) (w + 1)) := by
      show (if u + 1 = u + 1 then r (u + 1) + ((if 0 = u + 1 then 0 else k (u + 1) 0) + hR n (fun w => if w + 1 = u + 1 then 0 else k (u + 1) (w + 1))) else -k (u + 1) (u + 1)) = _
      rw [if_pos rfl, if_neg (by omega), hs (u + 1) 0, hR_congr (f := fun w => if w + 1 = u + 1 then 0 else k (u + 1) (w + 1)) (g := fun w => if w = u then 0 else k (u + 1) (w + 1)) (fun w _ => by
        by_cases q : w = u
        · rw [if_pos q, if_pos (by omega)]
        · rw [if_neg q, if_neg (by omega)])]
      grind
    have s2 : hR n (fun w => if w = u then 0 else κ * k (u + 1) (w + 1) + k 0 (u + 1) * k 0 (w + 1)) = κ * hR n (fun w => if w = u then 0 else k (u + 1) (w + 1)) + k 0 (u + 1) * (hR n (fun w => k 0 (w + 1)) - k 0 (u + 1)) := by
      have t1 : hR n (fun w => if w = u then 0 else κ * k (u + 1) (w + 1) + k 0 (u + 1) * k 0 (w + 1)) = hR n (fun w => κ * (if w = u then 0 else k (u + 1) (w + 1)) + k 0 (u + 1) * (k 0 (w + 1) + (-1) * (if w = u then k 0 (w + 1) else 0))) := hR_congr (fun w _ => by
        by_cases q : w = u
        · rw [if_pos q, if_pos q, if_pos q]; grind
        · rw [if_neg q, if_neg q, if_neg q]; grind)
      rw [t1, hR_add, hR_mul, hR_mul, hR_add, hR_mul, hR_one (c := u) (f := fun w => if w = u then k 0 (w + 1) else 0) hu (fun w _ hne => by rw [if_neg hne]), if_pos rfl]
      grind
    have s3 : hR n (fun w => k 0 (w + 1)) = κ - r 0 := by rw [← hq]; grind
    have s4 : hkLp n (fun u => κ * r (u + 1) + k 0 (u + 1) * r 0) (fun u v => κ * k (u + 1) (v + 1) + k 0 (u + 1) * k 0 (v + 1)) u u = κ * r (u + 1) + k 0 (u + 1) * r 0 + hR n (fun w => if w = u then 0 else κ * k (u + 1) (w + 1) + k 0 (u + 1) * k 0 (w + 1)) := by
      show (if u = u then _ else _) = _
      rw [if_pos rfl]
    rw [s4, s2, s3, s1]
    generalize hR n (fun w => if w = u then 0 else k (u + 1) (w + 1)) = W
    grind
  · have s1 : hkLp (n + 1) r k (u + 1) (v + 1) = -k (u + 1) (v + 1) := by
      show (if u + 1 = v + 1 then _ else -k (u + 1) (v + 1)) = _
      rw [if_neg (by omega)]
    have s4 : hkLp n (fun u => κ * r (u + 1) + k 0 (u + 1) * r 0) (fun u v => κ * k (u + 1) (v + 1) + k 0 (u + 1) * k 0 (v + 1)) u v = -(κ * k (u + 1) (v + 1) + k 0 (u + 1) * k 0 (v + 1)) := by
      show (if u = v then _ else _) = _
      rw [if_neg e]
    rw [s1, s4]
    grind
/-- one node taken out, without division -/
theorem hkLp_D {n : Nat} {r : Nat → Rat} {k : Nat → Nat → Rat} (hs : ∀ u v, k u v = k v u) (hκ : r 0 + hR n (fun w => k 0 (w + 1)) ≠ 0) :
    (r 0 + hR n (fun w => k 0 (w + 1))) ^ n * hkD (n + 1) (hkLp (n + 1) r k) = (r 0 + hR n (fun w => k 0 (w + 1))) * hkD n (hkLp n (fun u => (r 0 + hR n (fun w => k 0 (w + 1))) * r (u + 1) + k 0 (u + 1) * r 0) (fun u v => (r 0 + hR n (fun w => k 0 (w + 1))) * k (u + 1) (v + 1) + k 0 (u + 1) * k 0 (v + 1))) := by
  have d0 : hkLp (n + 1) r k 0 0 = r 0 + hR n (fun w => k 0 (w + 1)) := by
    show (if 0 = 0 then r 0 + ((if 0 = 0 then 0 else k 0 0) + hR n (fun w => if w + 1 = 0 then 0 else k 0 (w + 1))) else -k 0 0) = _
    rw [if_pos rfl, if_pos rfl, hR_congr (f := fun w => if w + 1 = 0 then 0 else k 0 (w + 1)) (g := fun w => k 0 (w + 1)) (fun w _ => by rw [if_neg (by omega)])]
    grind
  have e := hkD_congr (n := n) (hkLp_S hs hκ)
  show _ * (hkLp (n + 1) r k 0 0 * hkD n (hkS (hkLp (n + 1) r k))) = _
  rw [e, d0]
  generalize hq : r 0 + hR n (fun w => k 0 (w + 1)) = κ at *
  have z : 1 / κ ≠ 0 := fun q => by
    have : κ * (1 / κ) = 1 := by grind
    rw [q] at this
    grind
  rw [hkD_sc z]
  have pw : ∀ m : Nat, κ ^ m * (1 / κ) ^ m = 1 := fun m => by
    induction m with
    | zero => grind
    | succ m ih =>
      have a1 : κ ^ (m + 1) = κ * κ ^ m := by grind
      have a2 : (1 / κ) ^ (m + 1) = (1 / κ) * (1 / κ) ^ m := by grind
      rw [a1, a2]
      have a3 : κ * (1 / κ) = 1 := by grind
      have a4 : κ * κ ^ m * (1 / κ * (1 / κ) ^ m) = (κ * (1 / κ)) * (κ ^ m * (1 / κ) ^ m) := by
        generalize κ ^ m = A
        generalize (1 / κ) ^ m = B
        generalize 1 / κ = C
        grind
      rw [a4, a3, ih]
      grind
  have p := pw n
  generalize hkD n (hkLp n (fun u => κ * r (u + 1) + k 0 (u + 1) * r 0) (fun u v => κ * k (u + 1) (v + 1) + k 0 (u + 1) * k 0 (v + 1))) = D
  generalize κ ^ n = A at *
  generalize (1 / κ) ^ n = B at *
  have : A * (κ * (B * D)) = (A * B) * (κ * D) := by grind
  rw [this, p]
  grind
