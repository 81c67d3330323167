/-! distances by rounds over the edges -/
theorem pigeon (m : Nat) : ∀ (n : Nat) (f : Nat → Nat), (∀ j, j < n → ∃ x, x < m ∧ f x = j) → n ≤ m := by
  induction m with
  | zero =>
    intro n f h
    by_cases e : n = 0
    · omega
    · obtain ⟨x, hx, _⟩ := h 0 (by omega)
      omega
  | succ m ih =>
    intro n f h
    by_cases e : n = 0
    · omega
    · -- the last number: leave its value out
      by_cases g : f m < n
      · have h2 := ih (n - 1) (fun x => if f x < f m then f x else f x - 1) (fun j hj => by
          by_cases w : j < f m
          · obtain ⟨x, hx, ex⟩ := h j (by omega)
            refine ⟨x, ?_, ?_⟩
            · by_cases e2 : x = m
              · rw [e2] at ex; omega
              · omega
            · show (if f x < f m then f x else f x - 1) = j
              rw [if_pos (by omega)]; exact ex
          · obtain ⟨x, hx, ex⟩ := h (j + 1) (by omega)
            refine ⟨x, ?_, ?_⟩
            · by_cases e2 : x = m
              · rw [e2] at ex; omega
              · omega
            · show (if f x < f m then f x else f x - 1) = j
              rw [if_neg (by omega)]; omega)
        omega
      · have h2 := ih n f (fun j hj => by
          obtain ⟨x, hx, ex⟩ := h j hj
          refine ⟨x, ?_, ex⟩
          by_cases e2 : x = m
          · rw [e2] at ex; omega
          · omega)
        omega
def nup (f : Nat → Nat) (c v : Nat) : Nat → Nat := fun x => if x = c then v else f x
theorem nup_e (f : Nat → Nat) (c v : Nat) : nup f c v c = v := if_pos rfl
theorem nup_n (f : Nat → Nat) {c x : Nat} (v : Nat) (h : x ≠ c) : nup f c v x = f x := if_neg h
/-- how a node stands to the one from which it was reached -/
def bfP (E : Nat) (tl hd : Nat → Nat) (w : Nat → Int) (res src : Nat → Prop) (F : Int) (d : Nat → Int) (par τ r : Nat → Nat) (v : Nat) : Prop :=
  (par v < E → res (par v) ∧ hd (par v) = v ∧ d (tl (par v)) < F ∧ d v < F ∧ d (tl (par v)) + w (par v) ≤ d v ∧ (τ v ≤ τ (tl (par v)) → d (tl (par v)) + w (par v) < d v) ∧ r v ≤ r (tl (par v)) + 1) ∧
  (E ≤ par v → (d v = F ∨ (src v ∧ d v = 0)) ∧ r v = 0)
/-- round k, the edges below i done; x: something has changed in it -/
def bf (n E : Nat) (tl hd : Nat → Nat) (w : Nat → Int) (res src : Nat → Prop) (F B : Int) (k i : Nat) (x : Bool) (d : Nat → Int) (par : Nat → Nat) : Prop :=
  ∃ (τ r : Nat → Nat) (t : Nat), (∀ v, v < n → bfP E tl hd w res src F d par τ r v) ∧ (∀ v, v < n → τ v < t ∧ r v ≤ k) ∧
    (∀ e, e < E → res e → d (tl e) < F → (e < i ∧ r (tl e) < k) ∨ r (tl e) + 1 < k → d (hd e) ≤ d (tl e) + w e) ∧
    (∀ v, v < n → d v = F ∨ (-(B * (k * E + i)) ≤ d v ∧ d v ≤ B * (k * E + i))) ∧
    (x = false → ∀ v, v < n → r v < k) ∧ (x = true → ∃ v, v < n ∧ r v = k) ∧ (∀ v, v < n → src v → d v < F)
theorem bf_start {n E : Nat} {tl hd : Nat → Nat} {w : Nat → Int} {res src : Nat → Prop} {F B : Int} {d : Nat → Int} {par : Nat → Nat} (hF : 0 < F) (h1 : ∀ v, v < n → E ≤ par v) (h2 : ∀ v, v < n → d v = F ∨ (src v ∧ d v = 0)) (h3 : ∀ v, v < n → src v → d v = 0) (hB : 0 ≤ B) : bf n E tl hd w res src F B 1 0 false d par := by
  refine ⟨fun _ => 0, fun _ => 0, 1, fun v hv => ⟨fun g => by have := h1 v hv; omega, fun _ => ⟨h2 v hv, rfl⟩⟩, fun v hv => ⟨Nat.zero_lt_one, Nat.zero_le 1⟩, fun e he _ _ g => ?_, fun v hv => ?_, fun _ v hv => Nat.zero_lt_one, fun g => absurd g (by decide), fun v hv hs => by rw [h3 v hv hs]; exact hF⟩
  · rcases g with g | g
    · omega
    · omega
  · rcases h2 v hv with g | g
    · exact Or.inl g
    · right
      have : (0 : Int) ≤ B * ((1 : Nat) * E + (0 : Nat)) := Int.mul_nonneg hB (by omega)
      rw [g.2]
      omega
theorem bd_step {B : Int} {m : Nat} (hB : 0 ≤ B) : B * ((m : Int) + 1) = B * m + B := by rw [Int.mul_add, Int.mul_one]
theorem bf_skip {n E : Nat} {tl hd : Nat → Nat} {w : Nat → Int} {res src : Nat → Prop} {F B : Int} {k i : Nat} {x : Bool} {d : Nat → Int} {par : Nat → Nat} (hB : 0 ≤ B) (h : bf n E tl hd w res src F B k i x d par) (hc : res i → d (tl i) < F → d (hd i) ≤ d (tl i) + w i) : bf n E tl hd w res src F B k (i + 1) x d par := by
  obtain ⟨τ, r, t, a1, a2, a3, a4, a5, a6, a7⟩ := h
  refine ⟨τ, r, t, a1, a2, fun e he hr hd2 g => ?_, fun v hv => ?_, a5, a6, a7⟩
  · rcases g with ⟨g1, g2⟩ | g
    · by_cases e2 : e = i
      · rw [e2] at hr hd2 ⊢; exact hc hr hd2
      · exact a3 e he hr hd2 (Or.inl ⟨by omega, g2⟩)
    · exact a3 e he hr hd2 (Or.inr g)
  · rcases a4 v hv with g | g
    · exact Or.inl g
    · right
      have e : B * ((k : Int) * E + ((i + 1 : Nat) : Int)) = B * (k * E + i) + B := by
        rw [show (k : Int) * E + ((i + 1 : Nat) : Int) = (k * E + i) + 1 by omega, Int.mul_add, Int.mul_one]
      rw [e]
      omega
theorem bf_relax {n E : Nat} {tl hd : Nat → Nat} {w : Nat → Int} {res src : Nat → Prop} {F B : Int} {k i : Nat} {x : Bool} {d : Nat → Int} {par : Nat → Nat} (hB : 0 ≤ B) (h : bf n E tl hd w res src F B k i x d par) (hi : i < E) (hn : tl i < n ∧ hd i < n) (hr : res i) (ht : d (tl i) < F) (hl : d (tl i) + w i < d (hd i)) (hw : -B ≤ w i ∧ w i ≤ B) (hF : B * ((k : Int) * E + (i + 1 : Nat)) < F) (hne : tl i ≠ hd i) :
    bf n E tl hd w res src F B k (i + 1) true (fup d (hd i) (d (tl i) + w i)) (nup par (hd i) i) := by
  obtain ⟨τ, r, t, a1, a2, a3, a4, a5, a6, a7⟩ := h
  have e1 : B * ((k : Int) * E + ((i + 1 : Nat) : Int)) = B * (k * E + i) + B := by
    rw [show (k : Int) * E + ((i + 1 : Nat) : Int) = (k * E + i) + 1 by omega, Int.mul_add, Int.mul_one]
  rw [e1] at hF
  have bt : -(B * (k * E + i)) ≤ d (tl i) ∧ d (tl i) ≤ B * (k * E + i) := (a4 (tl i) hn.1).elim (fun g => by omega) id
  have nw : d (tl i) + w i < F := by omega
  have hrt : k ≤ r (tl i) + 1 := by
    refine Classical.byContradiction (fun g => ?_)
    have := a3 i hi hr ht (Or.inr (by omega))
    omega
  have dle : ∀ v, fup d (hd i) (d (tl i) + w i) v ≤ d v := fun v => by
    by_cases e : v = hd i
    · rw [e, fup_e]; omega
    · rw [fup_n _ _ e]; exact Int.le_refl _
  have dtl : ∀ v, v ≠ hd i → fup d (hd i) (d (tl i) + w i) v = d v := fun v e => fup_n _ _ e
  refine ⟨nup τ (hd i) t, nup r (hd i) k, t + 1, fun v hv => ?_, fun v hv => ?_, fun e he hre hde g => ?_, fun v hv => ?_, fun g => absurd g (by decide), fun _ => ⟨hd i, hn.2, nup_e _ _ _⟩, fun v hv hs => ?_⟩
  · by_cases ev : v = hd i
    · refine ⟨fun _ => ?_, fun g => ?_⟩
      · rw [ev, nup_e, nup_e, fup_e, dtl _ hne, nup_n _ _ hne, nup_e, nup_n _ _ hne]
        refine ⟨hr, rfl, ht, nw, Int.le_refl _, fun g => ?_, hrt⟩
        have := (a2 (tl i) hn.1).1
        omega
      · rw [ev, nup_e] at g
        omega
    · obtain ⟨b1, b2⟩ := a1 v hv
      unfold bfP
      rw [nup_n par _ ev, fup_n d _ ev, nup_n τ _ ev, nup_n r _ ev]
      refine ⟨fun g => ?_, b2⟩
      obtain ⟨c1, c2, c3, c4, c5, c6, c7⟩ := b1 g
      by_cases eu : tl (par v) = hd i
      · rw [eu, fup_e, nup_e, nup_e]
        rw [eu] at c3 c5 c7
        refine ⟨c1, c2, nw, c4, by omega, fun _ => by omega, ?_⟩
        have := (a2 (hd i) hn.2).2
        omega
      · rw [dtl _ eu, nup_n _ _ eu, nup_n _ _ eu]
        exact ⟨c1, c2, c3, c4, c5, c6, c7⟩
  · by_cases ev : v = hd i
    · rw [ev, nup_e, nup_e]; omega
    · rw [nup_n _ _ ev, nup_n _ _ ev]
      have := a2 v hv
      omega
  · by_cases eu : tl e = hd i
    · rw [eu, nup_e] at g
      rcases g with g | g
      · omega
      · omega
    · rw [dtl _ eu] at hde ⊢
      rw [nup_n _ _ eu] at g
      by_cases e2 : e = i
      · rw [e2, fup_e]; exact Int.le_refl _
      · refine Int.le_trans (dle (hd e)) ?_
        rcases g with ⟨g1, g2⟩ | g
        · exact a3 e he hre hde (Or.inl ⟨by omega, g2⟩)
        · exact a3 e he hre hde (Or.inr g)
  · by_cases ev : v = hd i
    · right
      rw [ev, fup_e, e1]
      omega
    · rw [fup_n _ _ ev]
      rcases a4 v hv with g | g
      · exact Or.inl g
      · right; rw [e1]; omega
  · have := a7 v hv hs
    have := dle v
    omega
theorem bf_next {n E : Nat} {tl hd : Nat → Nat} {w : Nat → Int} {res src : Nat → Prop} {F B : Int} {k : Nat} {x : Bool} {d : Nat → Int} {par : Nat → Nat} (h : bf n E tl hd w res src F B k E x d par) : bf n E tl hd w res src F B (k + 1) 0 false d par := by
  obtain ⟨τ, r, t, a1, a2, a3, a4, a5, a6, a7⟩ := h
  refine ⟨τ, r, t, a1, fun v hv => ⟨(a2 v hv).1, by have := (a2 v hv).2; omega⟩, fun e he hr hde g => ?_, fun v hv => ?_, fun _ v hv => by have := (a2 v hv).2; omega, fun g => absurd g (by decide), a7⟩
  · rcases g with g | g
    · omega
    · exact a3 e he hr hde (Or.inl ⟨he, by omega⟩)
  · have e : ((k + 1 : Nat) : Int) * E + ((0 : Nat) : Int) = (k : Int) * E + E := by
      rw [Int.natCast_add, Int.add_mul]
      simp
    rw [e]
    exact a4 v hv
/-- what stands when no edge brings anything nearer -/
def bfC (n E : Nat) (tl hd : Nat → Nat) (w : Nat → Int) (res src : Nat → Prop) (F : Int) (d : Nat → Int) (par : Nat → Nat) : Prop :=
  ∃ τ : Nat → Nat, (∀ v, v < n → (par v < E → res (par v) ∧ hd (par v) = v ∧ d (tl (par v)) < F ∧ d v < F ∧ d v = d (tl (par v)) + w (par v) ∧ τ (tl (par v)) < τ v) ∧ (E ≤ par v → d v = F ∨ (src v ∧ d v = 0))) ∧
    (∀ e, e < E → res e → d (tl e) < F → d (hd e) ≤ d (tl e) + w e) ∧ (∀ v, v < n → src v → d v < F)
theorem bf_done {n E : Nat} {tl hd : Nat → Nat} {w : Nat → Int} {res src : Nat → Prop} {F B : Int} {k : Nat} {d : Nat → Int} {par : Nat → Nat} (hn : ∀ e, e < E → tl e < n) (h : bf n E tl hd w res src F B k E false d par) : bfC n E tl hd w res src F d par := by
  obtain ⟨τ, r, t, a1, a2, a3, a4, a5, a6, a7⟩ := h
  have cl : ∀ e, e < E → res e → d (tl e) < F → d (hd e) ≤ d (tl e) + w e := fun e he hr hde => a3 e he hr hde (Or.inl ⟨he, a5 rfl _ (hn e he)⟩)
  refine ⟨τ, fun v hv => ⟨fun g => ?_, fun g => ((a1 v hv).2 g).1⟩, cl, a7⟩
  obtain ⟨c1, c2, c3, c4, c5, c6, c7⟩ := (a1 v hv).1 g
  have h1 := cl (par v) g c1 c3
  rw [c2] at h1
  refine ⟨c1, c2, c3, c4, by omega, ?_⟩
  refine Nat.lt_of_not_le (fun g2 => ?_)
  have := c6 g2
  omega
/-- with levels that no edge breaks, it is done before as many rounds as there are nodes -/
theorem bf_short {n E : Nat} {tl hd : Nat → Nat} {w : Nat → Int} {res src : Nat → Prop} {F B : Int} {k i : Nat} {x : Bool} {d : Nat → Int} {par : Nat → Nat} (hn : ∀ e, e < E → tl e < n) {π : Nat → Int} (hπ : ∀ e, e < E → res e → π (hd e) ≤ π (tl e) + w e) (h : bf n E tl hd w res src F B k i x d par) (hx : x = true) : k < n := by
  obtain ⟨τ, r, t, a1, a2, a3, a4, a5, a6, a7⟩ := h
  -- the order of the nodes: by what is left of the distance, then by time
  have key : ∀ (q : Nat) (v : Nat), v < n → cnt (fun y => decide (d y - π y < d v - π v ∨ (d y - π y = d v - π v ∧ τ y < τ v))) n ≤ q → ∀ j, j ≤ r v → ∃ y, y < n ∧ r y = j := by
    intro q
    induction q with
    | zero =>
      intro v hv hq j hj
      by_cases g : par v < E
      · obtain ⟨c1, c2, c3, c4, c5, c6, c7⟩ := (a1 v hv).1 g
        have hp := hπ (par v) g c1
        rw [c2] at hp
        have : (fun y => decide (d y - π y < d v - π v ∨ (d y - π y = d v - π v ∧ τ y < τ v))) (tl (par v)) = true := by
          rw [decide_eq_true_eq]
          by_cases e : τ v ≤ τ (tl (par v))
          · have := c6 e; left; omega
          · by_cases e2 : d (tl (par v)) - π (tl (par v)) < d v - π v
            · exact Or.inl e2
            · right; omega
        have hl := cnt_lt (p := fun _ => false) (q := fun y => decide (d y - π y < d v - π v ∨ (d y - π y = d v - π v ∧ τ y < τ v))) (n := n) (fun _ _ w => absurd w (by decide)) (hn (par v) g) this rfl
        omega
      · have := ((a1 v hv).2 (by omega)).2
        exact ⟨v, hv, by omega⟩
    | succ q ih =>
      intro v hv hq j hj
      by_cases g : par v < E
      · obtain ⟨c1, c2, c3, c4, c5, c6, c7⟩ := (a1 v hv).1 g
        have hp := hπ (par v) g c1
        rw [c2] at hp
        have hu := hn (par v) g
        have lt : d (tl (par v)) - π (tl (par v)) < d v - π v ∨ (d (tl (par v)) - π (tl (par v)) = d v - π v ∧ τ (tl (par v)) < τ v) := by
          by_cases e : τ v ≤ τ (tl (par v))
          · have := c6 e; left; omega
          · by_cases e2 : d (tl (par v)) - π (tl (par v)) < d v - π v
            · exact Or.inl e2
            · right; omega
        by_cases ej : j = r v
        · exact ⟨v, hv, ej.symm⟩
        · refine ih (tl (par v)) hu ?_ j (by omega)
          have hl := cnt_lt (p := fun y => decide (d y - π y < d (tl (par v)) - π (tl (par v)) ∨ (d y - π y = d (tl (par v)) - π (tl (par v)) ∧ τ y < τ (tl (par v))))) (q := fun y => decide (d y - π y < d v - π v ∨ (d y - π y = d v - π v ∧ τ y < τ v))) (n := n) (fun y _ w => by
            rw [decide_eq_true_eq] at w ⊢
            omega) (j := tl (par v)) hu (by rw [decide_eq_true_eq]; exact lt) (by rw [decide_eq_false_iff_not]; omega)
          omega
      · have := ((a1 v hv).2 (by omega)).2
        exact ⟨v, hv, by omega⟩
  obtain ⟨v, hv, ev⟩ := a6 hx
  have hp := pigeon n (k + 1) r (fun j hj => key n v hv (cnt_le _ _) j (by omega))
  omega
