/-! each matrix is one of a list, under other names -/
theorem nS_z {f : Nat → Nat} {n : Nat} (h : ∀ i, i < n → f i = 0) : nS f n = 0 := by
  induction n with
  | zero => rfl
  | succ n ih =>
    show nS f n + f n = 0
    rw [ih (fun i hi => h i (by omega)), h n (by omega)]
theorem nS_add {f g : Nat → Nat} {n : Nat} : nS (fun i => f i + g i) n = nS f n + nS g n := by
  induction n with
  | zero => rfl
  | succ n ih =>
    show nS (fun i => f i + g i) n + (f n + g n) = nS f n + f n + (nS g n + g n)
    rw [ih]; omega
theorem nS_swap {f : Nat → Nat → Nat} {n m : Nat} : nS (fun i => nS (fun j => f i j) m) n = nS (fun j => nS (fun i => f i j) n) m := by
  induction n with
  | zero => exact (nS_z (fun j _ => rfl)).symm
  | succ n ih =>
    show nS (fun i => nS (fun j => f i j) m) n + nS (fun j => f n j) m = nS (fun j => nS (fun i => f i j) n + f n j) m
    rw [ih, nS_add]
theorem nS_pk {f : Nat → Nat} {n a : Nat} (ha : a < n) (h : ∀ i, i < n → i ≠ a → f i = 0) : nS f n = f a := by
  have := nS_upd (f := fun _ => 0) (g := f) (t := f a) ha (fun i hi hne => h i hi hne) (by omega)
  rw [this, nS_z (fun _ _ => rfl)]
  omega
theorem nS_pm {π ι : Nat → Nat} (hp : pmN π ι) (g : Nat → Nat) : nS (fun u => g (ι u)) 9 = nS g 9 := by
  have e1 : nS (fun u => g (ι u)) 9 = nS (fun u => nS (fun w => if w = ι u then g w else 0) 9) 9 := nS_congr (fun u hu => by
    rw [nS_pk (a := ι u) (hp.2.1 u hu).1 (fun i _ hne => if_neg hne), if_pos rfl])
  rw [e1, nS_swap]
  refine nS_congr (fun w hw => ?_)
  rw [nS_pk (a := π w) (hp.1 w hw) (fun u hu hne => if_neg (fun e => hne (by rw [e, (hp.2.1 u hu).2]))), if_pos (hp.2.2 w hw).symm]
theorem ndg_pm {π ι : Nat → Nat} (hp : pmN π ι) {m : Nat → Nat → Nat} {v : Nat} (hv : v < 9) : ndg (fun u v => m (ι u) (ι v)) v = ndg m (ι v) := by
  unfold ndg
  rw [← nS_pm hp (fun u => if u = ι v then 0 else m u (ι v))]
  refine nS_congr (fun u hu => ?_)
  have : u = v ↔ ι u = ι v := ⟨fun e => by rw [e], fun e => by rw [← (hp.2.1 u hu).2, e, (hp.2.1 v hv).2]⟩
  simp only [this]
/-- the rank of a pair: the degrees of its ends, the lesser first -/
def rkM (m : Nat → Nat → Nat) (a b : Nat) : Nat := 32 * min (ndg m a) (ndg m b) + max (ndg m a) (ndg m b)
def lsM (m : Nat → Nat → Nat) (a b : Nat) : Prop := 0 < m a b ∧ ∀ u v, u < 9 → v < 9 → u ≠ v → 0 < m u v → rkM m a b ≤ rkM m u v
/-- one more column between two nodes -/
def plM (m : Nat → Nat → Nat) (a b : Nat) : Nat → Nat → Nat := fun u v => m u v + if (u = a ∧ v = b) ∨ (u = b ∧ v = a) then 1 else 0
theorem ls_ex {m : Nat → Nat → Nat} (hs : ∀ u v, m u v = m v u) (h : ∃ a b, a < 9 ∧ b < 9 ∧ a ≠ b ∧ 0 < m a b) : ∃ a b, a < 9 ∧ b < 9 ∧ a ≠ b ∧ lsM m a b := by
  have key : ∀ n, (∃ a b, a < 9 ∧ b < 9 ∧ a ≠ b ∧ 0 < m a b ∧ rkM m a b ≤ n) → ∃ a b, a < 9 ∧ b < 9 ∧ a ≠ b ∧ lsM m a b := fun n => by
    induction n with
    | zero =>
      rintro ⟨a, b, a1, a2, a3, a4, a5⟩
      exact ⟨a, b, a1, a2, a3, a4, fun u v _ _ _ _ => by omega⟩
    | succ n ih =>
      rintro ⟨a, b, a1, a2, a3, a4, a5⟩
      by_cases g : ∃ a b, a < 9 ∧ b < 9 ∧ a ≠ b ∧ 0 < m a b ∧ rkM m a b ≤ n
      · exact ih g
      · refine ⟨a, b, a1, a2, a3, a4, fun u v hu hv hne hp => ?_⟩
        refine Nat.le_of_not_lt (fun q => g ⟨u, v, hu, hv, hne, hp, by omega⟩)
  obtain ⟨a, b, a1, a2, a3, a4⟩ := h
  exact key _ ⟨a, b, a1, a2, a3, a4, Nat.le_refl _⟩
/-- equal on the nodes -/
def eqM (m m' : Nat → Nat → Nat) : Prop := ∀ u v, u < 9 → v < 9 → u ≠ v → m u v = m' u v
theorem ndg_eq {m m' : Nat → Nat → Nat} (h : eqM m m') {v : Nat} (hv : v < 9) : ndg m v = ndg m' v := nS_congr (fun u hu => by
  show (if u = v then 0 else m u v) = (if u = v then 0 else m' u v)
  by_cases q : u = v
  · rw [if_pos q, if_pos q]
  · rw [if_neg q, if_neg q, h u v hu hv q])
theorem lsM_eq {m m' : Nat → Nat → Nat} (h : eqM m m') {a b : Nat} (ha : a < 9) (hb : b < 9) (hab : a ≠ b) (l : lsM m a b) : lsM m' a b := by
  refine ⟨by rw [← h a b ha hb hab]; exact l.1, fun u v hu hv hne hp => ?_⟩
  have := l.2 u v hu hv hne (by rw [h u v hu hv hne]; exact hp)
  unfold rkM at *
  rw [← ndg_eq h ha, ← ndg_eq h hb, ← ndg_eq h hu, ← ndg_eq h hv]
  exact this
theorem lsM_pm {π ι : Nat → Nat} (hp : pmN π ι) {m : Nat → Nat → Nat} {a b : Nat} (ha : a < 9) (hb : b < 9) (l : lsM m a b) : lsM (fun u v => m (ι u) (ι v)) (π a) (π b) := by
  refine ⟨by show 0 < m (ι (π a)) (ι (π b)); rw [hp.2.2 a ha, hp.2.2 b hb]; exact l.1, fun u v hu hv hne hq => ?_⟩
  have ne : ι u ≠ ι v := fun e => hne (by rw [← (hp.2.1 u hu).2, e, (hp.2.1 v hv).2])
  have := l.2 (ι u) (ι v) (hp.2.1 u hu).1 (hp.2.1 v hv).1 ne hq
  unfold rkM at *
  rw [ndg_pm hp (hp.1 a ha), ndg_pm hp (hp.1 b hb), ndg_pm hp hu, ndg_pm hp hv, hp.2.2 a ha, hp.2.2 b hb]
  exact this
