/-! pure mathematics: numbers -/
def zb (p : Prop) [Decidable p] : Int32 := if p then 1 else 0
theorem zb_bit (p : Prop) [Decidable p] : zbit (zb p) := by
  unfold zb zbit
  by_cases h : p <;> simp [h]
theorem zb_0 {p : Prop} [Decidable p] : zb p = 0 ↔ ¬ p := by
  unfold zb
  by_cases h : p <;> simp [h]
theorem zb_t {p : Prop} [Decidable p] (h : p) : zb p = 1 := by simp [zb, h]
theorem zb_f {p : Prop} [Decidable p] (h : ¬ p) : zb p = 0 := by simp [zb, h]
theorem i_rng (x : Int32) : -2147483648 ≤ x.toInt ∧ x.toInt ≤ 2147483647 := by
  have h1 := Int32.le_toInt x
  have h2 := Int32.toInt_lt x
  omega
theorem i_bm {z : Int} (h1 : -2147483648 ≤ z) (h2 : z ≤ 2147483647) : z.bmod (2 ^ 32) = z := by
  apply Int.bmod_eq_of_le <;> omega
theorem i_add {x y : Int32} (h1 : -2147483648 ≤ x.toInt + y.toInt) (h2 : x.toInt + y.toInt ≤ 2147483647) : (x + y).toInt = x.toInt + y.toInt := by
  rw [Int32.toInt_add]; exact i_bm h1 h2
theorem i_sub {x y : Int32} (h1 : -2147483648 ≤ x.toInt - y.toInt) (h2 : x.toInt - y.toInt ≤ 2147483647) : (x - y).toInt = x.toInt - y.toInt := by
  rw [Int32.toInt_sub]; exact i_bm h1 h2
theorem i_mul {x y : Int32} (h1 : -2147483648 ≤ x.toInt * y.toInt) (h2 : x.toInt * y.toInt ≤ 2147483647) : (x * y).toInt = x.toInt * y.toInt := by
  rw [Int32.toInt_mul]; exact i_bm h1 h2
theorem i_neg {x : Int32} (h1 : -2147483648 < x.toInt) : (-x).toInt = -x.toInt := by
  have := i_rng x
  rw [Int32.toInt_neg]; exact i_bm (by omega) (by omega)
theorem i_lt {x y : Int32} : x < y ↔ x.toInt < y.toInt := Int32.lt_iff_toInt_lt
theorem i_le {x y : Int32} : x ≤ y ↔ x.toInt ≤ y.toInt := Int32.le_iff_toInt_le
theorem i_eq {x y : Int32} : x = y ↔ x.toInt = y.toInt := Int32.toInt_inj.symm
theorem l_rng (x : Int64) : -9223372036854775808 ≤ x.toInt ∧ x.toInt ≤ 9223372036854775807 := by
  have h1 := Int64.le_toInt x
  have h2 := Int64.toInt_lt x
  omega
theorem l_i (x : Int32) : (Int32.toInt64 x).toInt = x.toInt := by simp
theorem lg_1 {x y : Int64} (h : y.toInt < x.toInt) : lg_cmp x y = 1 := by
  unfold lg_cmp
  rw [if_pos (show x > y from Int64.lt_iff_toInt_lt.mpr h)]
theorem lg_m {x y : Int64} (h : x.toInt < y.toInt) : lg_cmp x y = -1 := by
  unfold lg_cmp
  rw [if_neg (fun g : x > y => by have := Int64.lt_iff_toInt_lt.mp g; omega), if_neg (fun g : x = y => by subst g; omega)]
theorem lg_0 (x : Int64) : lg_cmp x x = 0 := by
  unfold lg_cmp
  rw [if_neg (fun g : x > x => by have := Int64.lt_iff_toInt_lt.mp g; omega), if_pos rfl]
theorem lg_lt {x y : Int64} : lg_cmp x y < 0 ↔ x.toInt < y.toInt := by
  rcases Int.lt_trichotomy x.toInt y.toInt with h | h | h
  · rw [lg_m h]; exact ⟨fun _ => h, fun _ => by decide⟩
  · rw [Int64.toInt_inj.mp h, lg_0]; exact ⟨fun g => absurd g (by decide), fun g => by omega⟩
  · rw [lg_1 h]; exact ⟨fun g => absurd g (by decide), fun g => by omega⟩
theorem lg_gt {x y : Int64} : 0 < lg_cmp x y ↔ y.toInt < x.toInt := by
  rcases Int.lt_trichotomy x.toInt y.toInt with h | h | h
  · rw [lg_m h]; exact ⟨fun g => absurd g (by decide), fun g => by omega⟩
  · rw [Int64.toInt_inj.mp h, lg_0]; exact ⟨fun g => absurd g (by decide), fun g => by omega⟩
  · rw [lg_1 h]; exact ⟨fun _ => h, fun _ => by decide⟩
theorem lg_eq {x y : Int64} : lg_cmp x y = 0 ↔ x = y := by
  rcases Int.lt_trichotomy x.toInt y.toInt with h | h | h
  · rw [lg_m h]; exact ⟨fun g => absurd g (by decide), fun g => by subst g; omega⟩
  · rw [Int64.toInt_inj.mp h, lg_0]; exact ⟨fun _ => rfl, fun _ => rfl⟩
  · rw [lg_1 h]; exact ⟨fun g => absurd g (by decide), fun g => by subst g; omega⟩
/-- the small tests of the two sides -/
theorem m_isWithin {y m : Int32} {S : ZS} {Q : Int32 → ZS → Prop} (hm : 0 ≤ m.toInt) (h : Q (zb (-m.toInt ≤ y.toInt ∧ y.toInt ≤ m.toInt)) S) : X6_isWithin y m S Q := by
  have hn : (-m).toInt = -m.toInt := i_neg (by omega)
  unfold X6_isWithin X6_isWithin_b15 X6_isWithin_b16
  refine ⟨fun c => ?_, fun c => ⟨fun c2 => ?_, fun c2 => ?_⟩⟩
  · rw [i_lt, hn] at c
    rw [zb_f (by omega)] at h
    exact ⟨Or.inl rfl, h⟩
  · rw [i_lt] at c2
    rw [zb_f (by omega)] at h
    exact ⟨Or.inl rfl, h⟩
  · rw [i_lt, hn] at c
    rw [i_lt] at c2
    rw [zb_t (by omega)] at h
    exact ⟨Or.inr rfl, h⟩
theorem m_within {y a b : Int64} {S : ZS} {Q : Int32 → ZS → Prop} (h : Q (zb (a.toInt ≤ y.toInt ∧ y.toInt ≤ b.toInt)) S) : X7_within y a b S Q := by
  unfold X7_within X7_within_b17 X7_within_b18
  refine ⟨fun c => ?_, fun c => ⟨fun c2 => ?_, fun c2 => ?_⟩⟩
  · rw [lg_lt] at c
    rw [zb_f (by omega)] at h
    exact ⟨Or.inl rfl, h⟩
  · rw [lg_gt] at c2
    rw [zb_f (by omega)] at h
    exact ⟨Or.inl rfl, h⟩
  · rw [lg_lt] at c
    rw [lg_gt] at c2
    rw [zb_t (by omega)] at h
    exact ⟨Or.inr rfl, h⟩
