/-! from many rows to independent ones -/
def hkU (c : Nat) : Nat → Int := fun d => if d = c then 1 else 0
theorem hR_one {m c : Nat} : ∀ {f : Nat → Rat}, c < m → (∀ i, i < m → i ≠ c → f i = 0) → hR m f = f c := by
  induction m generalizing c with
  | zero => intro f h; omega
  | succ m ih =>
    intro f h g
    show f 0 + hR m (fun i => f (i + 1)) = f c
    rcases c with _ | c
    · rw [hR_0 (fun i hi => g (i + 1) (by omega) (by omega))]; grind
    · rw [g 0 (by omega) (by omega), ih (c := c) (by omega) (fun i hi hne => g (i + 1) (by omega) (by omega))]; grind
theorem hkI_le {k m : Nat} {v : Nat → Nat → Int} (h : hkI k m v) : k ≤ m := by
  rcases Nat.lt_or_ge m k with g | g
  · exfalso
    refine hkdim m v (fun z hz i hi => ?_)
    have ext : ∀ c, hR k (fun i => (if i < m + 1 then z i else 0) * hkqi v i c) = hR (m + 1) (fun i => z i * hkqi v i c) := fun c => by
      have : ∀ d, hR (m + 1 + d) (fun i => (if i < m + 1 then z i else 0) * hkqi v i c) = hR (m + 1) (fun i => z i * hkqi v i c) := fun d => by
        induction d with
        | zero => exact hR_congr (fun i hi => by rw [if_pos (by omega)])
        | succ d ih =>
          rw [← Nat.add_assoc, hR_last, ih, if_neg (by omega)]
          grind
      have t := this (k - (m + 1))
      have e : m + 1 + (k - (m + 1)) = k := by omega
      rw [e] at t
      exact t
    have e := h (fun i => if i < m + 1 then z i else 0) (fun c hc => by rw [ext c]; exact hz c hc) i (by omega)
    rw [if_pos hi] at e
    exact e
  · exact g
theorem hk_ext1 {k m : Nat} {v : Nat → Nat → Int} (hk : k < m) (h : hkI k m v) : ∃ c, c < m ∧ hkI (k + 1) m (fun i => if i < k then v i else hkU c) := by
  refine Classical.byContradiction fun no => ?_
  have w0 : ∀ c, ∃ w : Nat → Rat, c < m → ∀ d, d < m → hkqi (fun _ => hkU c) 0 d = hR k (fun i => w i * hkqi v i d) := fun c => by
    by_cases hc : c < m
    · have g : ¬ hkI (k + 1) m (fun i => if i < k then v i else hkU c) := fun q => no ⟨c, hc, q⟩
      refine Classical.byContradiction fun no2 => g (fun z hz => ?_)
      have e : ∀ d, d < m → hR k (fun i => z i * hkqi v i d) + z k * hkqi (fun _ => hkU c) 0 d = 0 := fun d hd => by
        have t := hz d hd
        rw [hR_last, hR_congr (g := fun i => z i * hkqi v i d) (fun i hi => by show z i * ((if i < k then v i else hkU c) d : Int) = z i * (v i d : Int); rw [if_pos hi])] at t
        have t2 : hkqi (fun i => if i < k then v i else hkU c) k d = hkqi (fun _ => hkU c) 0 d := by
          show (((if k < k then v k else hkU c) d : Int) : Rat) = ((hkU c d : Int) : Rat)
          rw [if_neg (by omega)]
        rw [t2] at t
        exact t
      by_cases zk : z k = 0
      · have a := h z (fun d hd => by have := e d hd; rw [zk] at this; grind)
        intro i hi
        by_cases q : i = k
        · rw [q]; exact zk
        · exact a i (by omega)
      · exfalso
        refine no2 ⟨fun i => -(1 / z k) * z i, fun _ d hd => ?_⟩
        have t : hR k (fun i => -(1 / z k) * z i * hkqi v i d) = -(1 / z k) * hR k (fun i => z i * hkqi v i d) := by
          rw [← hR_mul]
          exact hR_congr (fun i _ => by grind)
        rw [t]
        have := e d hd
        generalize hR k (fun i => z i * hkqi v i d) = S at *
        generalize hkqi (fun _ => hkU c) 0 d = U at *
        grind
    · exact ⟨fun _ => 0, fun q => absurd q hc⟩
  have w1 : ∃ w : Nat → Nat → Rat, ∀ c, c < m → ∀ d, d < m → hkqi (fun _ => hkU c) 0 d = hR k (fun i => w c i * hkqi v i d) := ⟨fun c => Classical.choose (w0 c), fun c => Classical.choose_spec (w0 c)⟩
  obtain ⟨w, hw⟩ := w1
  refine hkdimr k w (fun y hy c hc => ?_)
  have u : ∀ a d, hkqi (fun _ => hkU a) 0 d = if d = a then 1 else 0 := fun a d => by
    show ((if d = a then (1 : Int) else 0 : Int) : Rat) = _
    by_cases q : d = a
    · rw [if_pos q, if_pos q]; rfl
    · rw [if_neg q, if_neg q]; rfl
  have s1 : hR (k + 1) (fun a => y a * hkqi (fun _ => hkU a) 0 c) = y c := by
    rw [hR_one (c := c) hc (fun i _ hne => by rw [u, if_neg (by omega)]; grind), u, if_pos rfl]
    grind
  rw [← s1, hR_congr (g := fun a => hR k (fun i => (y a * w a i) * hkqi v i c)) (fun a ha => by
    rw [hw a (by omega) c (by omega), ← hR_mul]
    exact hR_congr (fun i _ => by grind)), hR_swap]
  refine hR_0 (fun i hi => ?_)
  have t : hR (k + 1) (fun a => y a * w a i * hkqi v i c) = hkqi v i c * hR (k + 1) (fun a => y a * w a i) := by
    rw [← hR_mul]
    exact hR_congr (fun a _ => by grind)
  rw [t, hy i hi]
  grind
theorem hk_ext {m : Nat} : ∀ (d k : Nat) (v : Nat → Nat → Int), k + d = m → hkI k m v → ∃ B, hkI m m B ∧ (∀ i, i < k → B i = v i) ∧ ∀ i, k ≤ i → i < m → ∃ c, c < m ∧ B i = hkU c := by
  intro d
  induction d with
  | zero =>
    intro k v hk h
    have : k = m := by omega
    subst this
    exact ⟨v, h, fun _ _ => rfl, fun i h1 h2 => by omega⟩
  | succ d ih =>
    intro k v hk h
    obtain ⟨c, c1, c2⟩ := hk_ext1 (by omega) h
    obtain ⟨B, b1, b2, b3⟩ := ih (k + 1) _ (by omega) c2
    refine ⟨B, b1, fun i hi => by rw [b2 i (by omega), if_pos hi], fun i h1 h2 => ?_⟩
    by_cases e : i = k
    · exact ⟨c, c1, by rw [b2 i (by omega), if_neg (by omega)]⟩
    · exact b3 i (by omega) h2
theorem hR_rem {k : Nat} : ∀ {a : Nat} (f : Nat → Rat), a < k + 1 → hR (k + 1) f = f a + hR k (fun i => if i < a then f i else f (i + 1)) := by
  induction k with
  | zero =>
    intro a f ha
    have : a = 0 := by omega
    subst this
    rfl
  | succ k ih =>
    intro a f ha
    rcases a with _ | a
    · show f 0 + hR (k + 1) (fun i => f (i + 1)) = f 0 + hR (k + 1) (fun i => if i < 0 then f i else f (i + 1))
      rw [hR_congr (f := fun i => if i < 0 then f i else f (i + 1)) (g := fun i => f (i + 1)) (fun i _ => by rw [if_neg (by omega)])]
    · show f 0 + hR (k + 1) (fun i => f (i + 1)) = f (a + 1) + ((if 0 < a + 1 then f 0 else f 1) + hR k (fun i => if i + 1 < a + 1 then f (i + 1) else f (i + 1 + 1)))
      rw [ih (a := a) (fun i => f (i + 1)) (by omega), if_pos (by omega)]
      rw [hR_congr (f := fun i => if i + 1 < a + 1 then f (i + 1) else f (i + 1 + 1)) (g := fun i => if i < a then f (i + 1) else f (i + 1 + 1)) (fun i _ => by
        by_cases q : i < a
        · rw [if_pos q, if_pos (by omega)]
        · rw [if_neg q, if_neg (by omega)])]
      grind
theorem hR_nn {n : Nat} : ∀ {f : Nat → Rat}, (∀ i, i < n → 0 ≤ f i) → 0 ≤ hR n f := by
  induction n with
  | zero => intro f _; show (0 : Rat) ≤ 0; grind
  | succ n ih =>
    intro f h
    have a := h 0 (by omega)
    have b := ih (f := fun i => f (i + 1)) (fun i hi => h (i + 1) (by omega))
    show 0 ≤ f 0 + hR n (fun i => f (i + 1))
    grind
theorem hR_le {n : Nat} {f g : Nat → Rat} (h : ∀ i, i < n → f i ≤ g i) : hR n f ≤ hR n g := by
  have e := hR_nn (n := n) (f := fun i => g i + (-1) * f i) (fun i hi => by have := h i hi; grind)
  rw [hR_add, hR_mul] at e
  grind
/-- sums of numbers not below 0 that vanish -/
theorem hR_nn0 {n : Nat} : ∀ {f : Nat → Rat}, (∀ i, i < n → 0 ≤ f i) → hR n f ≤ 0 → ∀ i, i < n → f i = 0 := by
  induction n with
  | zero => intro f _ _ i hi; omega
  | succ n ih =>
    intro f h s i hi
    have a := h 0 (by omega)
    have b := hR_nn (f := fun i => f (i + 1)) (fun i hi => h (i + 1) (by omega) : ∀ i, i < n → _)
    have s2 : f 0 + hR n (fun i => f (i + 1)) ≤ 0 := s
    rcases i with _ | i
    · grind
    · exact ih (f := fun i => f (i + 1)) (fun i hi => h (i + 1) (by omega)) (by grind) i (by omega)
/-- the least of finitely many -/
theorem hk_least {k : Nat} (P : Nat → Prop) (q : Nat → Rat) (h : ∃ i, i < k ∧ P i) : ∃ a, a < k ∧ P a ∧ ∀ i, i < k → P i → q a ≤ q i := by
  induction k with
  | zero => obtain ⟨i, hi, _⟩ := h; omega
  | succ k ih =>
    by_cases g : ∃ i, i < k ∧ P i
    · obtain ⟨a, a1, a2, a3⟩ := ih g
      by_cases pk : P k
      · rcases Rat.le_total (a := q a) (b := q k) with le | le
        · refine ⟨a, by omega, a2, fun i hi hp => ?_⟩
          by_cases e : i = k
          · rw [e]; exact le
          · exact a3 i (by omega) hp
        · refine ⟨k, by omega, pk, fun i hi hp => ?_⟩
          by_cases e : i = k
          · rw [e]; grind
          · have := a3 i (by omega) hp; grind
      · refine ⟨a, by omega, a2, fun i hi hp => ?_⟩
        by_cases e : i = k
        · rw [e] at hp; exact absurd hp pk
        · exact a3 i (by omega) hp
    · obtain ⟨i, hi, hp⟩ := h
      have e : i = k := Classical.byContradiction fun q => g ⟨i, by omega, hp⟩
      subst e
      refine ⟨i, by omega, hp, fun j hj hpj => ?_⟩
      by_cases e : j = i
      · rw [e]; grind
      · exact absurd ⟨j, by omega, hpj⟩ g
