/-! reading behind a write; counted loops; the two sides' tests -/
theorem zu_at {S : ZS} {n j : Nat} {v : Int32} (m i : Nat) : (zu S n j v).1 m i = if m = n ∧ i = j then v else S.1 m i := by
  unfold zu zur upd
  by_cases h : m = n
  · subst h
    by_cases g : i = j <;> simp [g]
  · simp [h]
theorem zu_ne {S : ZS} {n j : Nat} {v : Int32} {m : Nat} (h : m ≠ n) : (zu S n j v).1 m = S.1 m := by
  unfold zu zur
  simp [h]
theorem zu_2 {S : ZS} {n j : Nat} {v : Int32} : (zu S n j v).2 = S.2 := rfl
theorem zw_1 {S : ZS} {n j : Nat} {v : Int64} : (zw S n j v).1 = S.1 := rfl
theorem zw_at {S : ZS} {n j : Nat} {v : Int64} (m i : Nat) : (zw S n j v).2 m i = if m = n ∧ i = j then v else S.2 m i := by
  unfold zw zul vp_updL
  by_cases h : m = n
  · subst h
    by_cases g : i = j <;> simp [g]
  · simp [h]
/-- a loop whose first number counts up to n -/
theorem zl_up {τ : Type} {b : Int32 × τ → (Int32 × τ → Prop) → Prop} (n : Nat) (J : Nat → τ → Prop) (hn : n < 2 ^ 31) (hs : ∀ (i : Nat) (t : τ) (k : Int32 × τ → Prop), i ≤ n → J i t → (i < n → ∀ t', J (i + 1) t' → k (nI (i + 1), t')) → b (nI i, t) k) (t0 : τ) (h0 : J 0 t0) : zl b (nI 0, t0) := by
  refine zl_of (fun x => ∃ i, i ≤ n ∧ x.1 = nI i ∧ J i x.2) (fun x => n - x.1.toNatClampNeg) (fun x k hx hk => ?_) _ ⟨0, Nat.zero_le _, rfl, h0⟩
  obtain ⟨x1, x2⟩ := x
  obtain ⟨i, hi, e, hJ⟩ := hx
  dsimp only at e hJ
  subst e
  refine hs i x2 k hi hJ (fun hlt t' ht' => hk _ ⟨i + 1, hlt, rfl, ht'⟩ ?_)
  show n - (nI (i + 1)).toNatClampNeg < n - (nI i).toNatClampNeg
  rw [nI_clamp (by omega), nI_clamp (by omega)]
  omega
def zok (x y : Int32) : Prop := -1000 ≤ x.toInt ∧ x.toInt ≤ y.toInt ∧ y.toInt ≤ 1000
theorem m_areBounds6 {x y : Int32} {S : ZS} {Q : Int32 → ZS → Prop} (h1 : zok x y → Q 1 S) (h0 : ¬ zok x y → Q 0 S) : X6_areBounds x y S Q := by
  unfold X6_areBounds X6_areBounds_b29 X6_areBounds_b30
  have e : (1000 : Int32).toInt = 1000 := by decide
  refine m_isWithin (by decide) ⟨fun c => ?_, fun c => ?_⟩
  · rw [zb_0, e] at c
    exact ⟨Or.inl rfl, h0 (fun h => by unfold zok at h; omega)⟩
  · rw [zb_0, e] at c
    refine m_isWithin (by decide) ⟨fun c2 => ?_, fun c2 => ⟨fun c3 => ?_, fun c3 => ?_⟩⟩
    · rw [zb_0, e] at c2
      exact ⟨Or.inl rfl, h0 (fun h => by unfold zok at h; omega)⟩
    · rw [i_lt] at c3
      exact ⟨Or.inl rfl, h0 (fun h => by unfold zok at h; omega)⟩
    · rw [zb_0, e] at c2
      rw [i_lt] at c3
      exact ⟨Or.inr rfl, h1 (by unfold zok; omega)⟩
theorem m_areBounds7 {x y : Int32} {S : ZS} {Q : Int32 → ZS → Prop} (h1 : zok x y → Q 1 S) (h0 : ¬ zok x y → Q 0 S) : X7_areBounds x y S Q := by
  unfold X7_areBounds X7_areBounds_b31 X7_areBounds_b32
  have e : (1000 : Int64).toInt = 1000 := by decide
  have e2 : (-1000 : Int64).toInt = -1000 := by decide
  refine m_within ⟨fun c => ?_, fun c => ?_⟩
  · rw [zb_0, e, e2, l_i] at c
    exact ⟨Or.inl rfl, h0 (fun h => by unfold zok at h; omega)⟩
  · rw [zb_0, e, e2, l_i] at c
    refine m_within ⟨fun c2 => ?_, fun c2 => ?_⟩
    · rw [zb_0, e, l_i, l_i] at c2
      exact ⟨Or.inl rfl, h0 (fun h => by unfold zok at h; omega)⟩
    · rw [zb_0, e, l_i, l_i] at c2
      exact ⟨Or.inr rfl, h1 (by unfold zok; omega)⟩
/-- passes: what is thrown is kept, whether nothing is -/
theorem m_passes {x y : Int32} {S : ZS} {Q : Int32 → ZS → Prop} (h1 : ¬ x = 0 → Q 0 (zu S 61 0 1)) (h2 : x = 0 → ¬ y = 0 → Q 0 (zu S 61 0 2)) (h0 : x = 0 → y = 0 → Q 1 (zu S 61 0 0)) : X7_passes x y S Q := by
  unfold X7_passes X7_passes_b18 X7_passes_b33
  refine ⟨fun c => ⟨fun c2 => ?_, fun c2 => ?_⟩, fun c => ?_⟩
  · intro T eT
    subst eT
    refine ⟨fun _ => ⟨Or.inr rfl, h0 c c2⟩, fun g => absurd ?_ g⟩
    rw [zu_at, if_pos ⟨rfl, rfl⟩]
  · intro T eT
    subst eT
    refine ⟨fun g => absurd g ?_, fun _ => ⟨Or.inl rfl, h2 c c2⟩⟩
    rw [zu_at, if_pos ⟨rfl, rfl⟩]
    decide
  · intro T eT
    subst eT
    refine ⟨fun g => absurd g ?_, fun _ => ⟨Or.inl rfl, h1 c⟩⟩
    rw [zu_at, if_pos ⟨rfl, rfl⟩]
    decide
