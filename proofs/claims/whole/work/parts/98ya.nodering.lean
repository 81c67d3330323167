/-! the form of a graph on its rings and on the box -/
theorem hR_two {m c d : Nat} {f : Nat → Rat} (hc : c < m) (hd : d < m) (hcd : c ≠ d) (h : ∀ i, i < m → i ≠ c → i ≠ d → f i = 0) : hR m f = f c + f d := by
  have e : hR m f = hR m (fun i => (if i = c then f c else 0) + (if i = d then f d else 0)) := hR_congr (fun i hi => by
    by_cases q1 : i = c
    · rw [if_pos q1, if_neg (by omega), q1]; grind
    · by_cases q2 : i = d
      · rw [if_neg q1, if_pos q2, q2]; grind
      · rw [if_neg q1, if_neg q2, h i hi q1 q2]; grind)
  rw [e, hR_add, hR_one (c := c) hc (fun i _ hne => by rw [if_neg hne]), hR_one (c := d) hd (fun i _ hne => by rw [if_neg hne]), if_pos rfl, if_pos rfl]
theorem hkdv_q {eu ev : Nat → Nat} {z : Nat → Int} (v : Nat) : hR 10 (fun c => hksv eu ev v c * ((z c : Int) : Rat)) = ((hkdv eu ev z v : Int) : Rat) := by
  unfold hkdv
  rw [← hR_sI]
  exact hR_congr (fun c _ => by unfold hksv; rw [Rat.intCast_mul])
theorem hk_deg {eu ev : Nat → Nat} {f : Nat → Rat} {m : Nat} (hO : ∀ c, c < m → eu c < 9 ∧ ev c < 9 ∧ eu c ≠ ev c) (y : Nat → Rat) : hR m (fun c => (f (eu c) + f (ev c)) * y c) = hR 9 (fun v => f v * hR m (fun c => if eu c = v ∨ ev c = v then y c else 0)) := by
  have e : ∀ c, c < m → (f (eu c) + f (ev c)) * y c = hR 9 (fun v => f v * (if eu c = v ∨ ev c = v then y c else 0)) := fun c hc => by
    obtain ⟨a1, a2, a3⟩ := hO c hc
    rw [hR_two (c := eu c) (d := ev c) a1 a2 a3 (fun i _ n1 n2 => by rw [if_neg (fun q => q.elim (fun g => n1 g.symm) (fun g => n2 g.symm))]; grind), if_pos (Or.inl rfl), if_pos (Or.inr rfl)]
    grind
  rw [hR_congr e, hR_swap]
  exact hR_congr (fun v _ => hR_mul _ _)
theorem hkNQ_rg {eu ev : Nat → Nat} {f : Nat → Rat} {b : Rat} {th : Nat → Nat → Rat} {z : Nat → Int} (hO : ∀ c, c < 10 → eu c < 9 ∧ ev c < 9 ∧ eu c ≠ ev c) (hf : ∀ v, v < 9 → 0 ≤ f v) (hb : 0 ≤ b)
    (ht : ∀ c d, c < 10 → d < 10 → c ≠ d → eu c = eu d → ev c = ev d → f (eu c) + f (ev c) + th (eu c) (ev c) ≤ hR 9 f + b) (h : hkRG eu ev z) : hkQ 10 (hkNQ eu ev f b th) (fun c => (z c : Rat)) ≤ 2 * hR 9 f + 2 * b := by
  obtain ⟨za, zb, ⟨a, a', a1, a2, zc⟩, zd, _⟩ := h
  rw [hkNQ_val]
  by_cases pr : ∃ c d, c < 10 ∧ d < 10 ∧ c ≠ d ∧ eu c = eu d ∧ ev c = ev d ∧ z c ≠ 0 ∧ z d ≠ 0
  · obtain ⟨c, d, c1, d1, cd, p1, p2, zc0, zd0⟩ := pr
    have oth := zd c d c1 d1 cd (Or.inl ⟨p1, p2⟩) zc0 zd0
    have hc := za c c1
    have hd := za d d1
    obtain ⟨o1, o2, o3⟩ := hO c c1
    have dvs : ∀ v, hkdv eu ev z v = (iv (ev c) v - iv (eu c) v) * (z c + z d) := fun v => by
      unfold hkdv
      rw [sI_two (a := c) (b := d) cd (fun e he n1 n2 => by rw [oth e he n1 n2]; exact Int.mul_zero _), if_pos c1, if_pos d1, ← p1, ← p2, ← Int.mul_add]
    have op : z d = -z c := by
      have e := zb (eu c) o1
      rw [dvs, sI_two (a := c) (b := d) cd (fun e he n1 n2 => by rw [oth e he n1 n2]; split <;> rfl), if_pos c1, if_pos d1, if_pos (Or.inl rfl), if_pos (Or.inl p1.symm)] at e
      unfold iv at e
      rw [if_pos rfl, if_neg (Ne.symm o3)] at e
      have x1 : z c = 1 ∨ z c = -1 := by omega
      have x2 : z d = 1 ∨ z d = -1 := by omega
      rcases x1 with g1 | g1 <;> rcases x2 with g2 | g2 <;> rw [g1, g2] at e ⊢ <;> first | rfl | exact absurd e (by decide)
    have d0 : ∀ v, hR 10 (fun c => hksv eu ev v c * ((z c : Int) : Rat)) = 0 := fun v => by
      rw [hkdv_q, dvs, op]
      have : (iv (ev c) v - iv (eu c) v) * (z c + -z c) = 0 := by rw [Int.add_right_neg]; exact Int.mul_zero _
      rw [this]; rfl
    have sq : ((z c : Int) : Rat) * ((z c : Int) : Rat) = 1 := by
      have x1 : z c = 1 ∨ z c = -1 := by omega
      rcases x1 with g | g <;> rw [g, ← Rat.intCast_mul] <;> rfl
    have zdq : ((z d : Int) : Rat) = -((z c : Int) : Rat) := by rw [op, Rat.intCast_neg]
    have z0 : ∀ e, e < 10 → e ≠ c → e ≠ d → ((z e : Int) : Rat) = 0 := fun e he n1 n2 => by rw [oth e he n1 n2]; rfl
    have t1 : hR 10 (fun c => (f (eu c) + f (ev c)) * (((z c : Int) : Rat) * ((z c : Int) : Rat))) = 2 * (f (eu c) + f (ev c)) := by
      rw [hR_two c1 d1 cd (fun e he n1 n2 => by rw [z0 e he n1 n2]; grind), zdq, ← p1, ← p2]
      grind
    have t2 : hR 9 (fun v => (f v + b) * (hR 10 (fun c => hksv eu ev v c * ((z c : Int) : Rat)) * hR 10 (fun c => hksv eu ev v c * ((z c : Int) : Rat)))) = 0 := hR_0 (fun v _ => by rw [d0]; grind)
    have t3 : hR 10 (fun c => hR 10 (fun d => (if c ≠ d ∧ eu c = eu d ∧ ev c = ev d then -th (eu c) (ev c) else 0) * ((z c : Int) : Rat) * ((z d : Int) : Rat))) = 2 * th (eu c) (ev c) := by
      rw [hR_two c1 d1 cd (fun e he n1 n2 => hR_0 (fun i _ => by rw [z0 e he n1 n2]; grind))]
      rw [hR_one (c := d) d1 (fun i hi hne => by
        by_cases q : i = c
        · rw [if_neg (fun g => g.1 q.symm)]; grind
        · rw [z0 i hi q hne]; grind), hR_one (c := c) c1 (fun i hi hne => by
        by_cases q : i = d
        · rw [if_neg (fun g => g.1 q.symm)]; grind
        · rw [z0 i hi hne q]; grind), if_pos ⟨cd, p1, p2⟩, if_pos ⟨Ne.symm cd, p1.symm, p2.symm⟩, zdq, ← p1, ← p2]
      grind
    rw [t1, t2, t3]
    have := ht c d c1 d1 cd p1 p2
    grind
  · have t3 : hR 10 (fun c => hR 10 (fun d => (if c ≠ d ∧ eu c = eu d ∧ ev c = ev d then -th (eu c) (ev c) else 0) * ((z c : Int) : Rat) * ((z d : Int) : Rat))) = 0 := hR_0 (fun c hc => hR_0 (fun d hd => by
      by_cases g : c ≠ d ∧ eu c = eu d ∧ ev c = ev d
      · by_cases q1 : z c = 0
        · rw [q1]
          have : (((0 : Int)) : Rat) = 0 := rfl
          rw [this]; grind
        · by_cases q2 : z d = 0
          · rw [q2]
            have : (((0 : Int)) : Rat) = 0 := rfl
            rw [this]; grind
          · exact absurd ⟨c, d, hc, hd, g.1, g.2.1, g.2.2, q1, q2⟩ pr
      · rw [if_neg g]; grind))
    rw [t3, hk_deg hO]
    have e1 : hR 9 (fun v => (f v + b) * (hR 10 (fun c => hksv eu ev v c * ((z c : Int) : Rat)) * hR 10 (fun c => hksv eu ev v c * ((z c : Int) : Rat)))) = hR 9 (fun v => (f v + b) * (((hkdv eu ev z v : Int) : Rat) * ((hkdv eu ev z v : Int) : Rat))) := hR_congr (fun v _ => by rw [hkdv_q])
    have e2 : ∀ v, hR 10 (fun c => if eu c = v ∨ ev c = v then ((z c : Int) : Rat) * ((z c : Int) : Rat) else 0) = ((sI (fun c => if eu c = v ∨ ev c = v then z c * z c else 0) 10 : Int) : Rat) := fun v => by
      rw [← hR_sI]
      refine hR_congr (fun c _ => ?_)
      by_cases q : eu c = v ∨ ev c = v
      · rw [if_pos q, if_pos q, Rat.intCast_mul]
      · rw [if_neg q, if_neg q]; rfl
    rw [e1]
    have k1 : hR 9 (fun v => f v * hR 10 (fun c => if eu c = v ∨ ev c = v then ((z c : Int) : Rat) * ((z c : Int) : Rat) else 0)) + hR 9 (fun v => (f v + b) * (((hkdv eu ev z v : Int) : Rat) * ((hkdv eu ev z v : Int) : Rat))) ≤ hR 9 (fun v => 2 * f v + b * (((iv a v + iv a' v : Int)) : Rat)) := by
      rw [← hR_add]
      refine hR_le (fun v hv => ?_)
      rw [e2]
      have i1 := zb v hv
      have i2 := zc v hv
      have i3 : hkdv eu ev z v * hkdv eu ev z v ≤ iv a v + iv a' v := by
        rw [i2]
        unfold iv
        by_cases q1 : a = v <;> by_cases q2 : a' = v
        · rw [if_pos q1, if_pos q2]; decide
        · rw [if_pos q1, if_neg q2]; decide
        · rw [if_neg q1, if_pos q2]; decide
        · rw [if_neg q1, if_neg q2]; decide
      have j1 := Rat.intCast_le_intCast.mpr i1
      have j3 := Rat.intCast_le_intCast.mpr i3
      rw [Rat.intCast_add, Rat.intCast_mul] at j1
      rw [Rat.intCast_mul] at j3
      have two : ((2 : Int) : Rat) = 2 := rfl
      rw [two] at j1
      have m1 := Rat.mul_nonneg (hf v hv) (b := 2 - (((hkdv eu ev z v : Int) : Rat) * ((hkdv eu ev z v : Int) : Rat) + ((sI (fun c => if eu c = v ∨ ev c = v then z c * z c else 0) 10 : Int) : Rat))) (by grind)
      have m2 := Rat.mul_nonneg hb (b := (((iv a v + iv a' v : Int)) : Rat) - ((hkdv eu ev z v : Int) : Rat) * ((hkdv eu ev z v : Int) : Rat)) (by grind)
      generalize ((hkdv eu ev z v : Int) : Rat) * ((hkdv eu ev z v : Int) : Rat) = D at *
      generalize ((sI (fun c => if eu c = v ∨ ev c = v then z c * z c else 0) 10 : Int) : Rat) = E at *
      generalize (((iv a v + iv a' v : Int)) : Rat) = I at *
      grind
    have k2 : hR 9 (fun v => 2 * f v + b * (((iv a v + iv a' v : Int)) : Rat)) = 2 * hR 9 f + b * 2 := by
      have ia : ∀ a, a < 9 → sI (iv a) 9 = 1 := fun a ha => sI_pick (x := 1) ha
      rw [hR_add, hR_mul, hR_mul, hR_sI, sI_add, ia a a1, ia a' a2]
      rfl
    rw [k2] at k1
    grind
