/-! columns turned round -/
theorem hkS_fl {G : Nat → Nat → Rat} {σ : Nat → Rat} (hσ : ∀ c, σ c * σ c = 1) : hkS (fun i j => σ i * σ j * G i j) = fun i j => σ (i + 1) * σ (j + 1) * hkS G i j := by
  funext i j
  show σ (i + 1) * σ (j + 1) * G (i + 1) (j + 1) - σ (i + 1) * σ 0 * G (i + 1) 0 * (σ 0 * σ (j + 1) * G 0 (j + 1)) / (σ 0 * σ 0 * G 0 0) = σ (i + 1) * σ (j + 1) * (G (i + 1) (j + 1) - G (i + 1) 0 * G 0 (j + 1) / G 0 0)
  have h0 := hσ 0
  have e : σ 0 * σ 0 * G 0 0 = G 0 0 := by rw [h0]; grind
  have e2 : σ (i + 1) * σ 0 * G (i + 1) 0 * (σ 0 * σ (j + 1) * G 0 (j + 1)) = σ (i + 1) * σ (j + 1) * (G (i + 1) 0 * G 0 (j + 1)) := by
    have : σ (i + 1) * σ 0 * G (i + 1) 0 * (σ 0 * σ (j + 1) * G 0 (j + 1)) = (σ 0 * σ 0) * (σ (i + 1) * σ (j + 1) * (G (i + 1) 0 * G 0 (j + 1))) := by grind
    rw [this, h0]; grind
  rw [e, e2]
  grind
theorem hkD_fl {n : Nat} : ∀ {G : Nat → Nat → Rat} {σ : Nat → Rat}, (∀ c, σ c * σ c = 1) → hkD n (fun i j => σ i * σ j * G i j) = hkD n G := by
  induction n with
  | zero => intro G σ _; rfl
  | succ n ih =>
    intro G σ h
    show σ 0 * σ 0 * G 0 0 * hkD n (hkS (fun i j => σ i * σ j * G i j)) = G 0 0 * hkD n (hkS G)
    rw [hkS_fl h, ih (G := hkS G) (σ := fun c => σ (c + 1)) (fun c => h (c + 1)), h 0]
    grind
theorem hkP_fl {n : Nat} : ∀ {G : Nat → Nat → Rat} {σ : Nat → Rat}, (∀ c, σ c * σ c = 1) → hkP n G → hkP n (fun i j => σ i * σ j * G i j) := by
  induction n with
  | zero => intro G σ _ _; trivial
  | succ n ih =>
    intro G σ h p
    refine ⟨?_, ?_⟩
    · show 0 < σ 0 * σ 0 * G 0 0
      rw [h 0]
      have := p.1
      grind
    · rw [hkS_fl h]
      exact ih (G := hkS G) (σ := fun c => σ (c + 1)) (fun c => h (c + 1)) p.2
theorem hkQ_fl {n : Nat} {G : Nat → Nat → Rat} {σ : Nat → Rat} (z : Nat → Rat) : hkQ n (fun i j => σ i * σ j * G i j) z = hkQ n G (fun i => σ i * z i) := by
  unfold hkQ
  exact hR_congr (fun i _ => hR_congr (fun j _ => by grind))
def or1 (eu ev : Nat → Nat) (c : Nat) : Nat := if eu c < ev c then eu c else ev c
def or2 (eu ev : Nat → Nat) (c : Nat) : Nat := if eu c < ev c then ev c else eu c
def orS (eu ev : Nat → Nat) (c : Nat) : Int := if eu c < ev c then 1 else -1
theorem or_cs (eu ev : Nat → Nat) (c : Nat) : (or1 eu ev c = eu c ∧ or2 eu ev c = ev c ∧ orS eu ev c = 1) ∨ (or1 eu ev c = ev c ∧ or2 eu ev c = eu c ∧ orS eu ev c = -1) := by
  unfold or1 or2 orS
  by_cases q : eu c < ev c
  · rw [if_pos q, if_pos q, if_pos q]; exact Or.inl ⟨rfl, rfl, rfl⟩
  · rw [if_neg q, if_neg q, if_neg q]; exact Or.inr ⟨rfl, rfl, rfl⟩
theorem hkRG_or {eu ev : Nat → Nat} {z : Nat → Int} (h : hkRG eu ev z) : hkRG (or1 eu ev) (or2 eu ev) (fun c => orS eu ev c * z c) := by
  obtain ⟨za, zb, ⟨a, b, a1, b1, zc⟩, zd, ze⟩ := h
  have dv : ∀ v, hkdv (or1 eu ev) (or2 eu ev) (fun c => orS eu ev c * z c) v = hkdv eu ev z v := fun v => by
    unfold hkdv
    refine sI_congr (fun c _ => ?_)
    show (iv (or2 eu ev c) v - iv (or1 eu ev c) v) * (orS eu ev c * z c) = (iv (ev c) v - iv (eu c) v) * z c
    rcases or_cs eu ev c with ⟨e1, e2, e3⟩ | ⟨e1, e2, e3⟩
    · rw [e1, e2, e3, Int.one_mul]
    · rw [e1, e2, e3, ← Int.mul_assoc]
      congr 1
      omega
  refine ⟨fun c hc => ?_, fun v hv => ?_, ⟨a, b, a1, b1, fun v hv => ?_⟩, fun c d hc hd hcd hp z1 z2 e he n1 n2 => ?_, fun A hA => ?_⟩
  · have := za c hc
    show -1 ≤ orS eu ev c * z c ∧ orS eu ev c * z c ≤ 1
    rcases or_cs eu ev c with ⟨_, _, e3⟩ | ⟨_, _, e3⟩ <;> rw [e3] <;> omega
  · rw [dv]
    have e : sI (fun c => if or1 eu ev c = v ∨ or2 eu ev c = v then orS eu ev c * z c * (orS eu ev c * z c) else 0) 10 = sI (fun c => if eu c = v ∨ ev c = v then z c * z c else 0) 10 := sI_congr (fun c _ => by
      rcases or_cs eu ev c with ⟨e1, e2, e3⟩ | ⟨e1, e2, e3⟩
      · rw [e1, e2, e3, Int.one_mul]
      · rw [e1, e2, e3]
        have e4 : -1 * z c * (-1 * z c) = z c * z c := by rw [Int.neg_one_mul, Int.neg_mul_neg]
        rw [e4]
        have e5 : (ev c = v ∨ eu c = v) ↔ (eu c = v ∨ ev c = v) := Or.comm
        simp only [e5])
    have := zb v hv
    show _ + sI (fun c => if or1 eu ev c = v ∨ or2 eu ev c = v then orS eu ev c * z c * (orS eu ev c * z c) else 0) 10 ≤ 2
    rw [e]; exact this
  · rw [dv]; exact zc v hv
  · have hp2 : hkpl eu ev c d := by
      unfold hkpl at *
      rcases or_cs eu ev c with ⟨e1, e2, _⟩ | ⟨e1, e2, _⟩ <;> rcases or_cs eu ev d with ⟨g1, g2, _⟩ | ⟨g1, g2, _⟩ <;> rw [e1, e2, g1, g2] at hp <;> omega
    have k1 : z c ≠ 0 := fun q => z1 (by show orS eu ev c * z c = 0; rw [q]; exact Int.mul_zero _)
    have k2 : z d ≠ 0 := fun q => z2 (by show orS eu ev d * z d = 0; rw [q]; exact Int.mul_zero _)
    show orS eu ev e * z e = 0
    rw [zd c d hc hd hcd hp2 k1 k2 e he n1 n2]
    exact Int.mul_zero _
  · have hA2 : ∀ c, c < 10 → (A (eu c) ↔ A (ev c)) := fun c hc => by
      have := hA c hc
      rcases or_cs eu ev c with ⟨e1, e2, _⟩ | ⟨e1, e2, _⟩ <;> rw [e1, e2] at this
      · exact this
      · exact this.symm
    have hA3 : ∀ c, c < 10 → (A (or1 eu ev c) ↔ A (eu c)) := fun c hc => by
      rcases or_cs eu ev c with ⟨e1, _, _⟩ | ⟨e1, _, _⟩ <;> rw [e1]
      exact (hA2 c hc).symm
    have nz : ∀ c, orS eu ev c * z c ≠ 0 → z c ≠ 0 := fun c h q => h (by rw [q]; exact Int.mul_zero _)
    rcases ze A hA2 with g | g
    · exact Or.inl (fun c hc h => (hA3 c hc).mpr (g c hc (nz c h)))
    · exact Or.inr (fun c hc h q => g c hc (nz c h) ((hA3 c hc).mp q))
theorem hkCE1_or {eu ev : Nat → Nat} (h : hkCE1 (or1 eu ev) (or2 eu ev)) : hkCE1 eu ev := by
  obtain ⟨Q, g, t, W, a1, a2, a3, a4, a5, a6⟩ := h
  have s1 : ∀ c, ((orS eu ev c : Int) : Rat) = 1 ∨ ((orS eu ev c : Int) : Rat) = -1 := fun c => by
    rcases or_cs eu ev c with ⟨_, _, e⟩ | ⟨_, _, e⟩ <;> rw [e]
    · exact Or.inl rfl
    · exact Or.inr rfl
  have s2 : ∀ c, ((orS eu ev c : Int) : Rat) * ((orS eu ev c : Int) : Rat) = 1 := fun c => by rcases s1 c with e | e <;> rw [e] <;> grind
  refine ⟨fun i j => ((orS eu ev i : Int) : Rat) * ((orS eu ev j : Int) : Rat) * Q i j, g, t, W, fun i j => ?_, hkP_fl s2 a2, a3, fun z hz => ?_, fun x hx => ?_, ?_⟩
  · show ((orS eu ev i : Int) : Rat) * ((orS eu ev j : Int) : Rat) * Q i j = ((orS eu ev j : Int) : Rat) * ((orS eu ev i : Int) : Rat) * Q j i
    rw [a1 i j]; grind
  · rw [hkQ_fl]
    have := a4 _ (hkRG_or hz)
    have e : (fun i => ((orS eu ev i : Int) : Rat) * ((z i : Int) : Rat)) = fun c => (((orS eu ev c * z c : Int)) : Rat) := funext fun c => (Rat.intCast_mul _ _).symm
    rw [e]
    exact this
  · rw [hkQ_fl]
    refine a5 _ (fun c hc => ?_)
    have := hx c hc
    rcases s1 c with e | e <;> rw [e] <;> grind
  · rw [hkD_fl s2]; exact a6
theorem hkmu_or {eu ev : Nat → Nat} {u v : Nat} : ∀ k, hkmu (or1 eu ev) (or2 eu ev) k u v = hkmu eu ev k u v := by
  intro k
  induction k with
  | zero => rfl
  | succ k ih =>
    show hkmu (or1 eu ev) (or2 eu ev) k u v + (if (or1 eu ev k = u ∧ or2 eu ev k = v) ∨ (or1 eu ev k = v ∧ or2 eu ev k = u) then 1 else 0) = hkmu eu ev k u v + (if (eu k = u ∧ ev k = v) ∨ (eu k = v ∧ ev k = u) then 1 else 0)
    rw [ih]
    have : ((or1 eu ev k = u ∧ or2 eu ev k = v) ∨ (or1 eu ev k = v ∧ or2 eu ev k = u)) ↔ ((eu k = u ∧ ev k = v) ∨ (eu k = v ∧ ev k = u)) := by
      rcases or_cs eu ev k with ⟨e1, e2, _⟩ | ⟨e1, e2, _⟩ <;> rw [e1, e2] <;> omega
    simp only [this]
