/-! the form of a graph: numbers at its nodes -/
def hksv (eu ev : Nat → Nat) (v c : Nat) : Rat := ((iv (ev c) v - iv (eu c) v : Int) : Rat)
def hkpr (eu ev : Nat → Nat) (c d : Nat) : Prop := c ≠ d ∧ eu c = eu d ∧ ev c = ev d
def hkNQ (eu ev : Nat → Nat) (f : Nat → Rat) (b : Rat) (th : Nat → Nat → Rat) : Nat → Nat → Rat := fun c d =>
  (if c = d then f (eu c) + f (ev c) else 0) + hR 9 (fun v => (f v + b) * hksv eu ev v c * hksv eu ev v d) + (if c ≠ d ∧ eu c = eu d ∧ ev c = ev d then -th (eu c) (ev c) else 0)
theorem hkNQ_sy (eu ev : Nat → Nat) (f : Nat → Rat) (b : Rat) (th : Nat → Nat → Rat) : hky (hkNQ eu ev f b th) := fun c d => by
  unfold hkNQ
  have e1 : hR 9 (fun v => (f v + b) * hksv eu ev v c * hksv eu ev v d) = hR 9 (fun v => (f v + b) * hksv eu ev v d * hksv eu ev v c) := hR_congr (fun v _ => by grind)
  rw [e1]
  by_cases q : c = d
  · subst q; rfl
  · rw [if_neg q, if_neg (Ne.symm q)]
    by_cases p : eu c = eu d ∧ ev c = ev d
    · rw [if_pos ⟨q, p.1, p.2⟩, if_pos ⟨Ne.symm q, p.1.symm, p.2.symm⟩, p.1, p.2]
    · rw [if_neg (fun g => p g.2), if_neg (fun g => p ⟨g.2.1.symm, g.2.2.symm⟩)]
/-- its value -/
theorem hkNQ_val {eu ev : Nat → Nat} {f : Nat → Rat} {b : Rat} {th : Nat → Nat → Rat} {m : Nat} (z : Nat → Rat) :
    hkQ m (hkNQ eu ev f b th) z = hR m (fun c => (f (eu c) + f (ev c)) * (z c * z c)) + hR 9 (fun v => (f v + b) * (hR m (fun c => hksv eu ev v c * z c) * hR m (fun c => hksv eu ev v c * z c))) + hR m (fun c => hR m (fun d => (if c ≠ d ∧ eu c = eu d ∧ ev c = ev d then -th (eu c) (ev c) else 0) * z c * z d)) := by
  have e1 : ∀ c, c < m → hR m (fun d => hkNQ eu ev f b th c d * z c * z d) = (f (eu c) + f (ev c)) * (z c * z c) + hR 9 (fun v => (f v + b) * (hksv eu ev v c * z c * hR m (fun d => hksv eu ev v d * z d))) + hR m (fun d => (if c ≠ d ∧ eu c = eu d ∧ ev c = ev d then -th (eu c) (ev c) else 0) * z c * z d) := fun c hc => by
    have t : hR m (fun d => hkNQ eu ev f b th c d * z c * z d) = hR m (fun d => (if c = d then f (eu c) + f (ev c) else 0) * z c * z d + (hR 9 (fun v => (f v + b) * hksv eu ev v c * hksv eu ev v d)) * z c * z d + (if c ≠ d ∧ eu c = eu d ∧ ev c = ev d then -th (eu c) (ev c) else 0) * z c * z d) := hR_congr (fun d _ => by unfold hkNQ; grind)
    rw [t, hR_add, hR_add, hR_one (c := c) hc (fun d _ hne => by rw [if_neg (Ne.symm hne)]; grind), if_pos rfl]
    have t2 : hR m (fun d => (hR 9 (fun v => (f v + b) * hksv eu ev v c * hksv eu ev v d)) * z c * z d) = hR 9 (fun v => (f v + b) * (hksv eu ev v c * z c * hR m (fun d => hksv eu ev v d * z d))) := by
      have t3 : ∀ d, hR 9 (fun v => (f v + b) * hksv eu ev v c * hksv eu ev v d) * z c * z d = hR 9 (fun v => (f v + b) * (hksv eu ev v c * z c * (hksv eu ev v d * z d))) := fun d => by
        have : hR 9 (fun v => (f v + b) * hksv eu ev v c * hksv eu ev v d) * z c * z d = (z c * z d) * hR 9 (fun v => (f v + b) * hksv eu ev v c * hksv eu ev v d) := by grind
        rw [this, ← hR_mul]
        exact hR_congr (fun v _ => by grind)
      rw [hR_congr (fun d _ => t3 d), hR_swap]
      refine hR_congr (fun v _ => ?_)
      rw [← hR_mul, ← hR_mul]
    rw [t2]
    grind
  unfold hkQ
  rw [hR_congr e1, hR_add, hR_add]
  have e2 : hR m (fun c => hR 9 (fun v => (f v + b) * (hksv eu ev v c * z c * hR m (fun d => hksv eu ev v d * z d)))) = hR 9 (fun v => (f v + b) * (hR m (fun c => hksv eu ev v c * z c) * hR m (fun c => hksv eu ev v c * z c))) := by
    rw [hR_swap]
    refine hR_congr (fun v _ => ?_)
    rw [hR_mul]
    have : hR m (fun c => hksv eu ev v c * z c * hR m (fun d => hksv eu ev v d * z d)) = hR m (fun d => hksv eu ev v d * z d) * hR m (fun c => hksv eu ev v c * z c) := by
      rw [← hR_mul]; exact hR_congr (fun c _ => by grind)
    rw [this]
  rw [e2]
