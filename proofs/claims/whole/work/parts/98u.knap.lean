/-! knapsacks: the least value by load, and the fewest of each column -/
def klt (t : Nat → Int) (a h : Nat) (co : Int) (w : Nat) (v : Int) : Prop := (∃ n : Nat, n ≤ h ∧ n * a ≤ w ∧ v = (n : Int) * co + t (w - n * a)) ∧ ∀ n : Nat, n ≤ h → n * a ≤ w → v ≤ (n : Int) * co + t (w - n * a)
theorem klt.uniq {t : Nat → Int} {a h w : Nat} {co v u : Int} (x : klt t a h co w v) (y : klt t a h co w u) : v = u := by
  obtain ⟨⟨n, n1, n2, n3⟩, n4⟩ := x
  obtain ⟨⟨m, m1, m2, m3⟩, m4⟩ := y
  have := n4 m m1 m2
  have := m4 n n1 n2
  omega
theorem klt_congr {t s : Nat → Int} {a h w : Nat} {co v : Int} (e : ∀ i, i ≤ w → t i = s i) (x : klt t a h co w v) : klt s a h co w v := by
  obtain ⟨⟨n, n1, n2, n3⟩, n4⟩ := x
  exact ⟨⟨n, n1, n2, by rw [n3, e _ (by omega)]⟩, fun m m1 m2 => by rw [← e _ (by omega)]; exact n4 m m1 m2⟩
theorem klt_h {t : Nat → Int} {a h k w : Nat} {co v : Int} (e : ∀ n, n * a ≤ w → (n ≤ h ↔ n ≤ k)) (x : klt t a h co w v) : klt t a k co w v := by
  obtain ⟨⟨n, n1, n2, n3⟩, n4⟩ := x
  exact ⟨⟨n, (e n n2).mp n1, n2, n3⟩, fun m m1 m2 => n4 m ((e m m2).mpr m1) m2⟩
theorem klt_0 {t : Nat → Int} {a w : Nat} {co : Int} : klt t a 0 co w (t w) := by
  refine ⟨⟨0, Nat.le_refl _, by omega, by rw [Nat.zero_mul, Nat.sub_zero]; simp⟩, fun n n1 _ => ?_⟩
  have : n = 0 := by omega
  subst this
  rw [Nat.zero_mul, Nat.sub_zero]
  simp
/-- one pack more -/
theorem klt_pack {t v : Nat → Int} {a P z w : Nat} {co : Int} (hz : z ≤ P + 1) (h : ∀ i, i ≤ w → klt t a P co i (v i)) : klt t a (P + z) co w (if z * a ≤ w then (if v (w - z * a) + (z : Int) * co < v w then v (w - z * a) + (z : Int) * co else v w) else v w) := by
  have hw := h w (Nat.le_refl _)
  obtain ⟨⟨n, n1, n2, n3⟩, n4⟩ := hw
  have two : ∀ m : Nat, z * a ≤ w → m * a ≤ w - z * a → ((m + z : Nat) : Int) * co + t (w - (m + z) * a) = (m : Int) * co + t (w - z * a - m * a) + (z : Int) * co := fun m g1 g2 => by
    rw [Int.natCast_add, Int.add_mul, Nat.add_mul, show w - (m * a + z * a) = w - z * a - m * a by omega]
    omega
  -- no number up to P + z is better than both
  have low : ∀ k : Nat, k ≤ P + z → k * a ≤ w → v w ≤ (k : Int) * co + t (w - k * a) ∨ (z * a ≤ w ∧ v (w - z * a) + (z : Int) * co ≤ (k : Int) * co + t (w - k * a)) := fun k k1 k2 => by
    by_cases g : k ≤ P
    · exact Or.inl (n4 k g k2)
    · right
      obtain ⟨m, rfl⟩ : ∃ m, k = m + z := ⟨k - z, by omega⟩
      rw [Nat.add_mul] at k2
      have hv := (h (w - z * a) (by omega)).2 m (by omega) (by omega)
      refine ⟨by omega, ?_⟩
      rw [two m (by omega) (by omega)]
      omega
  by_cases g : z * a ≤ w
  · rw [if_pos g]
    obtain ⟨⟨m, m1, m2, m3⟩, m4⟩ := h (w - z * a) (by omega)
    by_cases g2 : v (w - z * a) + (z : Int) * co < v w
    · rw [if_pos g2]
      refine ⟨⟨m + z, by omega, by rw [Nat.add_mul]; omega, by rw [two m g m2, m3]⟩, fun k k1 k2 => ?_⟩
      rcases low k k1 k2 with q | ⟨_, q⟩ <;> omega
    · rw [if_neg g2]
      refine ⟨⟨n, by omega, n2, n3⟩, fun k k1 k2 => ?_⟩
      rcases low k k1 k2 with q | ⟨_, q⟩ <;> omega
  · rw [if_neg g]
    refine ⟨⟨n, by omega, n2, n3⟩, fun k k1 k2 => ?_⟩
    rcases low k k1 k2 with q | ⟨q, _⟩
    · exact q
    · omega
def fstN (t : Nat → Int) (a h : Nat) (co : Int) (w : Nat) (v : Int) (n : Nat) : Prop := n ≤ h ∧ n * a ≤ w ∧ v = (n : Int) * co + t (w - n * a) ∧ ∀ m : Nat, m < n → v ≠ (m : Int) * co + t (w - m * a)
theorem fstN.uniq {t : Nat → Int} {a h w n m : Nat} {co v : Int} (x : fstN t a h co w v n) (y : fstN t a h co w v m) : n = m := by
  rcases Nat.lt_trichotomy n m with g | g | g
  · exact absurd x.2.2.1 (y.2.2.2 n g)
  · exact g
  · exact absurd y.2.2.1 (x.2.2.2 m g)
/-- tables from a column on -/
def tbl (t : Nat → Nat → Int) (nc l : Nat) (al hi : Nat → Nat) (co : Nat → Int) (i : Nat) : Prop := (∀ w, w ≤ l → t nc w = 0) ∧ ∀ c, i ≤ c → c < nc → ∀ w, w ≤ l → klt (t (c + 1)) (al c) (hi c) (co c) w (t c w)
theorem tbl.uniq {t s : Nat → Nat → Int} {nc l : Nat} {al hi : Nat → Nat} {co : Nat → Int} (x : tbl t nc l al hi co 0) (y : tbl s nc l al hi co 0) : ∀ k, k ≤ nc → ∀ w, w ≤ l → t (nc - k) w = s (nc - k) w := fun k => by
  induction k with
  | zero => intro _ w hw; rw [Nat.sub_zero, x.1 w hw, y.1 w hw]
  | succ k ih =>
    intro hk w hw
    have a := x.2 (nc - (k + 1)) (by omega) (by omega) w hw
    have b := y.2 (nc - (k + 1)) (by omega) (by omega) w hw
    rw [show nc - (k + 1) + 1 = nc - k by omega] at a b
    exact (klt_congr (fun i hi => ih (by omega) i (by omega)) a).uniq b
def ksol (nc l : Nat) (al hi : Nat → Nat) (co : Nat → Int) (best : Nat → Nat) : Prop := ∃ (t : Nat → Nat → Int) (ro : Nat → Nat), tbl t nc l al hi co 0 ∧ ro 0 = l ∧ ∀ c, c < nc → ro c ≤ l ∧ fstN (t (c + 1)) (al c) (hi c) (co c) (ro c) (t c (ro c)) (best c) ∧ ro (c + 1) = ro c - best c * al c
theorem ksol.uniq {nc l : Nat} {al hi : Nat → Nat} {co : Nat → Int} {b d : Nat → Nat} (x : ksol nc l al hi co b) (y : ksol nc l al hi co d) : ∀ c, c < nc → b c = d c := by
  obtain ⟨t, ro, t1, r0, r1⟩ := x
  obtain ⟨s, so, s1, q0, q1⟩ := y
  have et : ∀ c, c ≤ nc → ∀ w, w ≤ l → t c w = s c w := fun c hc w hw => by
    have := t1.uniq s1 (nc - c) (by omega) w hw
    rw [show nc - (nc - c) = c by omega] at this
    exact this
  have key : ∀ c, c ≤ nc → ro c = so c ∧ ∀ k, k < c → b k = d k := fun c => by
    induction c with
    | zero => intro _; exact ⟨r0.trans q0.symm, fun k hk => by omega⟩
    | succ c ih =>
      intro hc
      obtain ⟨i1, i2⟩ := ih (by omega)
      obtain ⟨a1, a2, a3⟩ := r1 c (by omega)
      obtain ⟨b1, b2, b3⟩ := q1 c (by omega)
      have e : b c = d c := by
        rw [← i1, ← et c (by omega) _ a1] at b2
        have b2' : fstN (t (c + 1)) (al c) (hi c) (co c) (ro c) (t c (ro c)) (d c) := by
          obtain ⟨f1, f2, f3, f4⟩ := b2
          refine ⟨f1, f2, by rw [et (c + 1) (by omega) _ (by omega)]; exact f3, fun m hm => ?_⟩
          rw [et (c + 1) (by omega) _ (by omega)]
          exact f4 m hm
        exact a2.uniq b2'
      refine ⟨by rw [a3, b3, i1, e], fun k hk => ?_⟩
      by_cases w : k = c
      · rw [w]; exact e
      · exact i2 k (by omega)
  exact fun c hc => (key (c + 1) (by omega)).2 c (by omega)
/-- more room is no worse; and nothing is large -/
theorem tbl.mono {t : Nat → Nat → Int} {nc l i : Nat} {al hi : Nat → Nat} {co : Nat → Int} (x : tbl t nc l al hi co i) : ∀ k, k ≤ nc - i → ∀ w v, v ≤ w → w ≤ l → t (nc - k) w ≤ t (nc - k) v := fun k => by
  induction k with
  | zero => intro _ w v hv hw; rw [Nat.sub_zero, x.1 w hw, x.1 v (by omega)]; exact Int.le_refl _
  | succ k ih =>
    intro hk w v hv hw
    have a := x.2 (nc - (k + 1)) (by omega) (by omega) w hw
    obtain ⟨⟨n, n1, n2, n3⟩, _⟩ := x.2 (nc - (k + 1)) (by omega) (by omega) v (by omega)
    have b := a.2 n n1 (by omega)
    rw [show nc - (k + 1) + 1 = nc - k by omega] at b n3
    have := ih (by omega) (w - n * al (nc - (k + 1))) (v - n * al (nc - (k + 1))) (by omega) (by omega)
    omega
theorem tbl.bd {t : Nat → Nat → Int} {nc l i : Nat} {al hi : Nat → Nat} {co : Nat → Int} (hl : l ≤ 300) (ha : ∀ c, c < nc → 1 ≤ al c) (hc : ∀ c, c < nc → -1000 ≤ co c ∧ co c ≤ 1000) (x : tbl t nc l al hi co i) : ∀ k, k ≤ nc - i → ∀ w, w ≤ l → -(300000 * (k : Int)) ≤ t (nc - k) w ∧ t (nc - k) w ≤ 300000 * (k : Int) := fun k => by
  induction k with
  | zero => intro _ w hw; rw [Nat.sub_zero, x.1 w hw]; omega
  | succ k ih =>
    intro hk w hw
    obtain ⟨⟨n, n1, n2, n3⟩, _⟩ := x.2 (nc - (k + 1)) (by omega) (by omega) w hw
    have a1 := ha (nc - (k + 1)) (by omega)
    have c1 := hc (nc - (k + 1)) (by omega)
    have n300 : n ≤ 300 := by
      have := Nat.le_mul_of_pos_right n (show 0 < al (nc - (k + 1)) by omega)
      omega
    have m := mul_bd n300 c1.1 c1.2
    rw [show nc - (k + 1) + 1 = nc - k by omega] at n3
    have := ih (by omega) (w - n * al (nc - (k + 1))) (by omega)
    rw [n3]
    omega
theorem klt_pos {t : Nat → Int} {a h w : Nat} {co : Int} (hco : 0 ≤ co) (hm : ∀ v, v ≤ w → t w ≤ t v) : klt t a h co w (t w) := by
  refine ⟨⟨0, by omega, by omega, by rw [Nat.zero_mul, Nat.sub_zero]; simp⟩, fun n _ _ => ?_⟩
  have := hm (w - n * a) (by omega)
  have : 0 ≤ (n : Int) * co := Int.mul_nonneg (by omega) hco
  omega
