/-! graphs as numbers: what the kernel checks -/
noncomputable def frc {α : Type} (x : Nat) (g : Nat → α) : α := Nat.rec (motive := fun _ => α) (g 0) (fun n _ => g (Nat.succ n)) x
theorem frc_eq {α : Type} (x : Nat) (g : Nat → α) : frc x g = g x := by cases x <;> rfl
noncomputable def bsel {α : Type} (b : Bool) (x y : α) : α := Bool.rec (motive := fun _ => α) y x b
theorem bsel_t {b : Bool} {x y : Bool} (h : bsel b x y = true) : (b = true ∧ x = true) ∨ (b = false ∧ y = true) := by
  cases b
  · exact Or.inr ⟨rfl, h⟩
  · exact Or.inl ⟨rfl, h⟩
theorem bsel_a {b : Bool} {x : Bool} (h : bsel b x false = true) : b = true ∧ x = true := by
  rcases bsel_t h with g | ⟨_, g⟩
  · exact g
  · exact Bool.noConfusion g
noncomputable def nSr (f : Nat → Nat) (n : Nat) : Nat := Nat.rec (motive := fun _ => Nat) 0 (fun i a => Nat.add a (f i)) n
noncomputable def nPr (f : Nat → Nat) (n : Nat) : Nat := Nat.rec (motive := fun _ => Nat) 1 (fun i a => Nat.mul a (f i)) n
theorem nSr_eq (f : Nat → Nat) (n : Nat) : nSr f n = nS f n := by
  induction n with
  | zero => rfl
  | succ n ih =>
    show nSr f n + f n = nS f n + f n
    rw [ih]
theorem nPr_eq (f : Nat → Nat) (n : Nat) : nPr f n = nP f n := by
  induction n with
  | zero => rfl
  | succ n ih =>
    show nPr f n * f n = nP f n * f n
    rw [ih]
theorem beq_cs (u v : Nat) : (Nat.beq u v = true ∧ u = v) ∨ (Nat.beq u v = false ∧ u ≠ v) := by
  cases h : Nat.beq u v
  · exact Or.inr ⟨rfl, Nat.ne_of_beq_eq_false h⟩
  · exact Or.inl ⟨rfl, Nat.eq_of_beq_eq_true h⟩
theorem ble_cs (u v : Nat) : (Nat.ble u v = true ∧ u ≤ v) ∨ (Nat.ble u v = false ∧ v < u) := by
  cases h : Nat.ble u v
  · refine Or.inr ⟨rfl, Nat.lt_of_not_le (fun q => ?_)⟩
    rw [Nat.ble_eq_true_of_le q] at h
    exact Bool.noConfusion h
  · exact Or.inl ⟨rfl, Nat.le_of_ble_eq_true h⟩
theorem ble_t {u v : Nat} (h : Nat.ble u v = true) : u ≤ v := Nat.le_of_ble_eq_true h
theorem beq_t {u v : Nat} (h : Nat.beq u v = true) : u = v := Nat.eq_of_beq_eq_true h
/-- digits -/
noncomputable def dgt (c i : Nat) : Nat := Nat.mod (Nat.shiftRight c (Nat.mul 4 i)) 16
theorem dgt_add {c i j : Nat} (h : dgt c i < 15) : dgt (Nat.add c (Nat.shiftLeft 1 (Nat.mul 4 i))) j = dgt c j + if j = i then 1 else 0 := by
  have e0 : ∀ c k, dgt c k = c / 16 ^ k % 16 := fun c k => by
    show (c >>> (4 * k)) % 16 = _
    rw [Nat.shiftRight_eq_div_pow, Nat.pow_mul]
  have e1 : Nat.shiftLeft 1 (Nat.mul 4 i) = 16 ^ i := by
    show 1 <<< (4 * i) = _
    rw [Nat.shiftLeft_eq, Nat.one_mul, Nat.pow_mul]
  rw [e0, e0 c, e1]
  show (c + 16 ^ i) / 16 ^ j % 16 = _
  rw [e0] at h
  have pp : ∀ k, 0 < 16 ^ k := fun k => Nat.pow_pos (by decide)
  rcases Nat.lt_trichotomy j i with g | g | g
  · obtain ⟨d, rfl⟩ : ∃ d, i = j + (d + 1) := ⟨i - j - 1, by omega⟩
    rw [if_neg (by omega), Nat.pow_add, Nat.add_mul_div_left _ _ (pp j), Nat.pow_succ]
    generalize c / 16 ^ j = x
    generalize 16 ^ d = y
    omega
  · subst g
    rw [if_pos rfl, Nat.add_div_right _ (pp j)]
    generalize c / 16 ^ j = x at *
    omega
  · obtain ⟨d, rfl⟩ : ∃ d, j = i + (1 + d) := ⟨j - i - 1, by omega⟩
    rw [if_neg (by omega)]
    have t : ∀ x, x / 16 ^ (i + (1 + d)) = x / 16 ^ i / 16 / 16 ^ d := fun x => by rw [Nat.pow_add, Nat.pow_add, Nat.pow_one, ← Nat.div_div_eq_div_mul, ← Nat.div_div_eq_div_mul]
    rw [t, t, Nat.add_div_right _ (pp i)]
    have : Nat.succ (c / 16 ^ i) / 16 = c / 16 ^ i / 16 := by
      generalize c / 16 ^ i = x at *
      omega
    rw [this]
    omega
noncomputable def mS (c u v : Nat) : Nat := bsel (Nat.ble u v) (dgt c (Nat.add (Nat.mul 9 u) v)) (dgt c (Nat.add (Nat.mul 9 v) u))
theorem mS_le {c u v : Nat} (h : u ≤ v) : mS c u v = dgt c (9 * u + v) := by
  unfold mS
  rw [Nat.ble_eq_true_of_le h]
  rfl
theorem mS_gt {c u v : Nat} (h : v < u) : mS c u v = dgt c (9 * v + u) := by
  unfold mS
  rcases ble_cs u v with ⟨_, q⟩ | ⟨q, _⟩
  · omega
  · rw [q]; rfl
theorem mS_sy (c u v : Nat) : mS c u v = mS c v u := by
  rcases Nat.lt_trichotomy u v with g | g | g
  · rw [mS_le (Nat.le_of_lt g), mS_gt g]
  · rw [g]
  · rw [mS_gt g, mS_le (Nat.le_of_lt g)]
noncomputable def inc (c p : Nat) : Nat := Nat.add c (Nat.shiftLeft 1 (Nat.mul 4 p))
theorem mS_add {c a b : Nat} (hab : a < b) (hb : b < 9) (h : dgt c (9 * a + b) < 15) : eqM (mS (inc c (9 * a + b))) (plM (mS c) a b) := by
  have main : ∀ u v, u < v → v < 9 → mS (inc c (9 * a + b)) u v = plM (mS c) a b u v := fun u v huv hv => by
    unfold plM inc
    rw [mS_le (Nat.le_of_lt huv), mS_le (Nat.le_of_lt huv), dgt_add h]
    by_cases q : u = a ∧ v = b
    · rw [if_pos (by rw [q.1, q.2]), if_pos (Or.inl q)]
    · rw [if_neg (by omega), if_neg (by omega)]
  intro u v hu hv hne
  rcases Nat.lt_or_gt_of_ne hne with g | g
  · exact main u v g hv
  · rw [mS_sy, main v u g hu]
    unfold plM
    rw [mS_sy c v u]
    have : ((v = a ∧ u = b) ∨ (v = b ∧ u = a)) ↔ ((u = a ∧ v = b) ∨ (u = b ∧ v = a)) := by omega
    simp only [this]
/-- degrees and ranks -/
noncomputable def ndgE (c v : Nat) : Nat := nSr (fun u => bsel (Nat.beq u v) 0 (mS c u v)) 9
theorem ndgE_eq (c v : Nat) : ndgE c v = ndg (mS c) v := by
  unfold ndgE ndg
  rw [nSr_eq]
  refine nS_congr (fun u _ => ?_)
  rcases beq_cs u v with ⟨q, e⟩ | ⟨q, e⟩
  · rw [q, if_pos e]; rfl
  · rw [q, if_neg e]; rfl
noncomputable def degS (c v : Nat) : Nat := Nat.shiftLeft (ndgE c v) (Nat.mul 4 v)
noncomputable def degT (c D v : Nat) : Bool := Nat.beq (dgt D v) (ndgE c v)
noncomputable def dqE (D a b v : Nat) : Nat := Nat.add (dgt D v) (bsel (Nat.beq v a) 1 (bsel (Nat.beq v b) 1 0))
theorem ndg_pl {m : Nat → Nat → Nat} {a b v : Nat} (ha : a < 9) (hb : b < 9) (hab : a ≠ b) : ndg (plM m a b) v = ndg m v + (if v = a then 1 else if v = b then 1 else 0) := by
  unfold ndg
  by_cases q1 : v = a
  · rw [if_pos q1]
    refine nS_upd (c := b) hb (fun u hu hne => ?_) ?_
    · by_cases g : u = v
      · rw [if_pos g, if_pos g]
      · rw [if_neg g, if_neg g]; unfold plM; rw [if_neg (by omega)]; omega
    · rw [if_neg (by omega), if_neg (by omega)]; unfold plM; rw [if_pos (Or.inr ⟨rfl, q1⟩)]
  · by_cases q2 : v = b
    · rw [if_neg q1, if_pos q2]
      refine nS_upd (c := a) ha (fun u hu hne => ?_) ?_
      · by_cases g : u = v
        · rw [if_pos g, if_pos g]
        · rw [if_neg g, if_neg g]; unfold plM; rw [if_neg (by omega)]; omega
      · rw [if_neg (by omega), if_neg (by omega)]; unfold plM; rw [if_pos (Or.inl ⟨rfl, q2⟩)]
    · rw [if_neg q1, if_neg q2]
      show _ = nS (fun u => if u = v then 0 else m u v) 9
      refine nS_congr (fun u hu => ?_)
      by_cases g : u = v
      · rw [if_pos g, if_pos g]
      · rw [if_neg g, if_neg g]; unfold plM; rw [if_neg (by omega)]; omega
theorem dqE_eq {c D a b v : Nat} (hD : ∀ v, v < 9 → dgt D v = ndg (mS c) v) (ha : a < 9) (hb : b < 9) (hab : a ≠ b) (hv : v < 9) : dqE D a b v = ndg (plM (mS c) a b) v := by
  unfold dqE
  rw [ndg_pl ha hb hab, hD v hv]
  rcases beq_cs v a with ⟨q, e⟩ | ⟨q, e⟩
  · rw [q, if_pos e]; rfl
  · rw [q, if_neg e]
    rcases beq_cs v b with ⟨q2, e2⟩ | ⟨q2, e2⟩
    · rw [q2, if_pos e2]; rfl
    · rw [q2, if_neg e2]; rfl
noncomputable def rkE (x y : Nat) : Nat := bsel (Nat.ble x y) (Nat.add (Nat.mul 32 x) y) (Nat.add (Nat.mul 32 y) x)
theorem rkE_eq (x y : Nat) : rkE x y = 32 * min x y + max x y := by
  unfold rkE
  rcases ble_cs x y with ⟨q, e⟩ | ⟨q, e⟩
  · rw [q, Nat.min_eq_left e, Nat.max_eq_right e]; rfl
  · rw [q, Nat.min_eq_right (Nat.le_of_lt e), Nat.max_eq_left (Nat.le_of_lt e)]; rfl
/-- loops -/
noncomputable def anyE (t : Nat → Bool) (n : Nat) : Bool := Nat.rec (motive := fun _ => Bool) false (fun i ih => bsel (t i) true ih) n
noncomputable def allE (t : Nat → Bool) (n : Nat) : Bool := Nat.rec (motive := fun _ => Bool) true (fun i ih => bsel (t i) ih false) n
theorem anyE_s {t : Nat → Bool} {n : Nat} (h : anyE t n = true) : ∃ i, i < n ∧ t i = true := by
  induction n with
  | zero => exact Bool.noConfusion h
  | succ n ih =>
    rcases bsel_t (show bsel (t n) true (anyE t n) = true from h) with ⟨g, _⟩ | ⟨_, g⟩
    · exact ⟨n, by omega, g⟩
    · obtain ⟨i, i1, i2⟩ := ih g
      exact ⟨i, by omega, i2⟩
theorem allE_s {t : Nat → Bool} {n : Nat} (h : allE t n = true) : ∀ i, i < n → t i = true := by
  induction n with
  | zero => intro i hi; omega
  | succ n ih =>
    have g := bsel_a (show bsel (t n) (allE t n) false = true from h)
    intro i hi
    by_cases e : i = n
    · rw [e]; exact g.1
    · exact ih g.2 i (by omega)
/-- a column of lesser rank -/
noncomputable def skU (c u v : Nat) : Bool := bsel (Nat.ble (Nat.succ u) v) (Nat.ble 1 (mS c u v)) false
noncomputable def skV (c D a b r u v : Nat) : Bool := bsel (Nat.ble (Nat.succ (rkE (dqE D a b u) (dqE D a b v))) r) (skU c u v) false
noncomputable def skT (c D a b r e : Nat) : Bool := frc (Nat.div e 9) (fun u => frc (Nat.mod e 9) (skV c D a b r u))
noncomputable def skI (c D E a b r i : Nat) : Bool := frc (Nat.mod (Nat.shiftRight E (Nat.mul 7 i)) 128) (skT c D a b r)
noncomputable def skR (c D E k a b r : Nat) : Bool := anyE (skI c D E a b r) k
noncomputable def skQ (c u0 v0 r0 a b r : Nat) : Bool := bsel (Nat.ble (Nat.succ r0) r) (bsel (Nat.beq a u0) false (bsel (Nat.beq a v0) false (bsel (Nat.beq b u0) false (bsel (Nat.beq b v0) false (skU c u0 v0))))) false
noncomputable def skS (c D E k u0 v0 r0 a b r : Nat) : Bool := bsel (skQ c u0 v0 r0 a b r) true (skR c D E k a b r)
noncomputable def skE (c D D1 E k u0 v0 r0 a b : Nat) : Bool := frc (rkE (dgt D1 a) (dgt D1 b)) (skS c D E k u0 v0 r0 a b)
theorem bsel_n {b x : Bool} (h : bsel b false x = true) : b = false ∧ x = true := by
  rcases bsel_t h with ⟨_, g⟩ | g
  · exact Bool.noConfusion g
  · exact g
theorem beq_f {u v : Nat} (h : Nat.beq u v = false) : u ≠ v := Nat.ne_of_beq_eq_false h
theorem skE_s {c D D1 E k u0 v0 a b : Nat} (hD : ∀ v, v < 9 → dgt D v = ndg (mS c) v) (hD1 : ∀ v, v < 9 → dgt D1 v = dgt D v + 1) (hv0 : v0 < 9) (ha : a < 9) (hb : b < 9) (hab : a ≠ b) (h : skE c D D1 E k u0 v0 (rkE (dgt D u0) (dgt D v0)) a b = true) : ¬ lsM (plM (mS c) a b) a b := by
  unfold skE at h
  rw [frc_eq] at h
  have rk : rkE (dgt D1 a) (dgt D1 b) = rkE (dqE D a b a) (dqE D a b b) := by
    have e1 : dqE D a b a = dgt D a + 1 := by
      unfold dqE
      rw [Nat.beq_refl]; rfl
    have e2 : dqE D a b b = dgt D b + 1 := by
      unfold dqE
      rw [Nat.beq_refl]
      rcases beq_cs b a with ⟨q, _⟩ | ⟨q, _⟩ <;> rw [q] <;> rfl
    rw [e1, e2, hD1 a ha, hD1 b hb]
  rw [rk] at h
  rcases bsel_t (show bsel (skQ c u0 v0 (rkE (dgt D u0) (dgt D v0)) a b (rkE (dqE D a b a) (dqE D a b b))) true (skR c D E k a b (rkE (dqE D a b a) (dqE D a b b))) = true from h) with ⟨h2, _⟩ | ⟨_, h2⟩
  · have g1 := bsel_a (show bsel (Nat.ble (Nat.succ (rkE (dgt D u0) (dgt D v0))) (rkE (dqE D a b a) (dqE D a b b))) (bsel (Nat.beq a u0) false (bsel (Nat.beq a v0) false (bsel (Nat.beq b u0) false (bsel (Nat.beq b v0) false (skU c u0 v0))))) false = true from h2)
    have g2 := bsel_n g1.2
    have g3 := bsel_n g2.2
    have g4 := bsel_n g3.2
    have g5 := bsel_n g4.2
    have g6 := bsel_a (show bsel (Nat.ble (Nat.succ u0) v0) (Nat.ble 1 (mS c u0 v0)) false = true from g5.2)
    have l1 := ble_t g1.1
    have l2 := ble_t g6.1
    have l3 := ble_t g6.2
    have n1 := beq_f g2.1
    have n2 := beq_f g3.1
    have n3 := beq_f g4.1
    have n4 := beq_f g5.1
    have du : ∀ v, v < 9 → v ≠ a → v ≠ b → dgt D v = ndg (plM (mS c) a b) v := fun v hv k1 k2 => by
      rw [ndg_pl ha hb hab, if_neg k1, if_neg k2, hD v hv, Nat.add_zero]
    intro l
    have := l.2 u0 v0 (by omega) hv0 (by omega) (by unfold plM; omega)
    rw [dqE_eq hD ha hb hab ha, dqE_eq hD ha hb hab hb, du u0 (by omega) (Ne.symm n1) (Ne.symm n3), du v0 hv0 (Ne.symm n2) (Ne.symm n4), rkE_eq, rkE_eq] at l1
    unfold rkM at this
    omega
  · obtain ⟨i, _, h2⟩ := anyE_s (show anyE (skI c D E a b (rkE (dqE D a b a) (dqE D a b b))) k = true from h2)
    unfold skI at h2
    rw [frc_eq] at h2
    unfold skT at h2
    rw [frc_eq, frc_eq] at h2
    generalize Nat.mod (Nat.shiftRight E (Nat.mul 7 i)) 128 = e at h2
    have hv : Nat.mod e 9 < 9 := Nat.mod_lt e (by decide)
    generalize Nat.mod e 9 = v at *
    generalize Nat.div e 9 = u at *
    have g := bsel_a (show bsel (Nat.ble (Nat.succ (rkE (dqE D a b u) (dqE D a b v))) (rkE (dqE D a b a) (dqE D a b b))) (skU c u v) false = true from h2)
    have g2 := bsel_a (show bsel (Nat.ble (Nat.succ u) v) (Nat.ble 1 (mS c u v)) false = true from g.2)
    have l1 := ble_t g.1
    have l2 := ble_t g2.1
    have l3 := ble_t g2.2
    intro l
    have := l.2 u v (by omega) hv (by omega) (by unfold plM; omega)
    rw [dqE_eq hD ha hb hab ha, dqE_eq hD ha hb hab hb, dqE_eq hD ha hb hab (by omega : u < 9), dqE_eq hD ha hb hab hv, rkE_eq, rkE_eq] at l1
    unfold rkM at this
    omega
/-- the pairs that are wanted -/
noncomputable def ndE (nu a b : Nat) : Bool := bsel (Nat.ble b nu) true (bsel (Nat.beq a nu) (Nat.beq b (Nat.succ nu)) false)
theorem ndE_s {nu a b : Nat} (h : b ≤ nu ∨ (a = nu ∧ b = nu + 1)) : ndE nu a b = true := by
  unfold ndE
  rcases ble_cs b nu with ⟨q, _⟩ | ⟨q, e⟩
  · rw [q]; rfl
  · rw [q]
    rcases h with h | ⟨h1, h2⟩
    · omega
    · rw [h1, h2]
      have a1 : Nat.beq nu nu = true := Nat.beq_refl nu
      have a2 : Nat.beq (nu + 1) (Nat.succ nu) = true := Nat.beq_refl _
      show bsel (Nat.beq nu nu) (Nat.beq (nu + 1) (Nat.succ nu)) false = true
      rw [a1, a2]; rfl
noncomputable def prE {α : Type} (p : Nat) (g : Nat → Nat → α) : α := frc (Nat.div p 9) (fun a => frc (Nat.mod p 9) (g a))
theorem prE_eq {α : Type} (p : Nat) (g : Nat → Nat → α) : prE p g = g (Nat.div p 9) (Nat.mod p 9) := by
  unfold prE
  rw [frc_eq, frc_eq]
noncomputable def chkP (nd sk : Nat → Nat → Bool) (ts : Nat → Nat → Nat → Bool) (ih : List Nat → Bool) (es : List Nat) (a b : Nat) : Bool := bsel (nd a b) (bsel (sk a b) (ih es) (List.rec (motive := fun _ => Bool) false (fun e es' _ => bsel (ts a b e) (ih es') false) es)) (ih es)
noncomputable def chkR (nd sk : Nat → Nat → Bool) (ts : Nat → Nat → Nat → Bool) (ps : List Nat) : List Nat → Bool := List.rec (motive := fun _ => List Nat → Bool) (fun _ => true) (fun p _ ih es => prE p (chkP nd sk ts ih es)) ps
theorem chkR_s {nd sk : Nat → Nat → Bool} {ts : Nat → Nat → Nat → Bool} : ∀ {ps es : List Nat}, chkR nd sk ts ps es = true → ∀ p, p ∈ ps → nd (Nat.div p 9) (Nat.mod p 9) = true → sk (Nat.div p 9) (Nat.mod p 9) = true ∨ ∃ e, ts (Nat.div p 9) (Nat.mod p 9) e = true := by
  intro ps
  induction ps with
  | nil => intro es _ p hp; cases hp
  | cons p0 ps ih =>
    intro es h p hp hn
    have h1 : prE p0 (chkP nd sk ts (chkR nd sk ts ps) es) = true := h
    rw [prE_eq] at h1
    have here : (nd (Nat.div p0 9) (Nat.mod p0 9) = true → sk (Nat.div p0 9) (Nat.mod p0 9) = true ∨ ∃ e, ts (Nat.div p0 9) (Nat.mod p0 9) e = true) ∧ ∃ es', chkR nd sk ts ps es' = true := by
      generalize Nat.div p0 9 = a at *
      generalize Nat.mod p0 9 = b at *
      have h2 : bsel (nd a b) (bsel (sk a b) (chkR nd sk ts ps es) (List.rec (motive := fun _ => Bool) false (fun e es' _ => bsel (ts a b e) (chkR nd sk ts ps es') false) es)) (chkR nd sk ts ps es) = true := h1
      rcases bsel_t h2 with ⟨_, g⟩ | ⟨g0, g⟩
      · rcases bsel_t g with ⟨g1, g2⟩ | ⟨_, g2⟩
        · exact ⟨fun _ => Or.inl g1, es, g2⟩
        · rcases es with _ | ⟨e, es'⟩
          · exact Bool.noConfusion g2
          · have g3 := bsel_a (show bsel (ts a b e) (chkR nd sk ts ps es') false = true from g2)
            exact ⟨fun _ => Or.inr ⟨e, g3.1⟩, es', g3.2⟩
      · exact ⟨fun q => by rw [g0] at q; exact Bool.noConfusion q, es, g⟩
    obtain ⟨k1, es', k2⟩ := here
    rcases List.mem_cons.mp hp with e | e
    · rw [e] at hn ⊢; exact k1 hn
    · exact ih k2 p e hn
noncomputable def chkA (ok : Nat → List Nat → Bool) (rows : List (List Nat)) : Nat → Bool := List.rec (motive := fun _ => Nat → Bool) (fun _ => true) (fun r _ ih i => bsel (ok i r) (ih (Nat.succ i)) false) rows
theorem chkA_s {ok : Nat → List Nat → Bool} : ∀ {rows : List (List Nat)} {lo : Nat}, chkA ok rows lo = true → ∀ i, lo ≤ i → i < lo + rows.length → ∃ r, ok i r = true := by
  intro rows
  induction rows with
  | nil => intro lo _ i h1 h2; simp at h2; omega
  | cons r rows ih =>
    intro lo h i h1 h2
    have g := bsel_a (show bsel (ok lo r) (chkA ok rows (Nat.succ lo)) false = true from h)
    by_cases e : i = lo
    · rw [e]; exact ⟨r, g.1⟩
    · exact ih g.2 i (by omega) (by simp at h2; omega)
/-- a code of a list of columns -/
noncomputable def cdE (k E : Nat) : Nat := nSr (fun i => Nat.shiftLeft 1 (Nat.mul 4 (Nat.mod (Nat.shiftRight E (Nat.mul 7 i)) 128))) k
noncomputable def atE (T i : Nat) : Nat := Nat.mod (Nat.shiftRight T (Nat.mul 64 i)) 18446744073709551616
noncomputable def isoT (D nu v : Nat) : Bool := bsel (Nat.ble nu v) (Nat.beq (dgt D v) 0) true
noncomputable def isoE (D nu : Nat) : Bool := allE (isoT D nu) 9
theorem isoE_s {c D nu : Nat} (hD : ∀ v, v < 9 → dgt D v = ndg (mS c) v) (h : isoE D nu = true) : ∀ u v, u < 9 → v < 9 → u ≠ v → nu ≤ v → mS c u v = 0 := fun u v hu hv hne hnu => by
  have g := allE_s h v hv
  have e : bsel (Nat.ble nu v) (Nat.beq (dgt D v) 0) true = true := g
  rw [Nat.ble_eq_true_of_le hnu] at e
  have e2 : dgt D v = 0 := beq_t e
  rw [hD v hv] at e2
  unfold ndg at e2
  have z : ∀ n, nS (fun u => if u = v then 0 else mS c u v) n = 0 → ∀ i, i < n → (if i = v then 0 else mS c i v) = 0 := fun n => by
    induction n with
    | zero => intro _ i hi; omega
    | succ n ih =>
      intro h i hi
      have h3 : nS (fun u => if u = v then 0 else mS c u v) n + (if n = v then 0 else mS c n v) = 0 := h
      by_cases q : i = n
      · rw [q]; omega
      · exact ih (by omega) i (by omega)
  have := z 9 e2 u hu
  rw [if_neg hne] at this
  exact this
def zPR : List Nat := [1,2,3,4,5,6,7,8,11,12,13,14,15,16,17,21,22,23,24,25,26,31,32,33,34,35,41,42,43,44,51,52,53,61,62,71]
theorem zPR_m : ∀ b, b < 9 → ∀ a, a < b → 9 * a + b ∈ zPR := by decide
/-- a row: a graph, the number of its nodes, what is said of its pairs -/
noncomputable def d1T (D D1 v : Nat) : Bool := Nat.beq (dgt D1 v) (Nat.succ (dgt D v))
noncomputable def rowF (k : Nat) (ts : Nat → Nat → Nat → Nat → Nat → Bool) (nu : Nat) (es : List Nat) (E c D D1 u0 v0 r0 : Nat) : Bool := chkR (ndE nu) (skE c D D1 E k u0 v0 r0) (ts c D) zPR es
noncomputable def rowG (k : Nat) (ts : Nat → Nat → Nat → Nat → Nat → Bool) (nu : Nat) (es : List Nat) (E c D D1 u0 v0 : Nat) : Bool := frc (rkE (dgt D u0) (dgt D v0)) (rowF k ts nu es E c D D1 u0 v0)
noncomputable def rowH (k : Nat) (ts : Nat → Nat → Nat → Nat → Nat → Bool) (nu : Nat) (es : List Nat) (E c D D1 : Nat) : Bool := bsel (allE (degT c D) 9) (bsel (allE (d1T D D1) 9) (bsel (isoE D nu) (prE (Nat.mod (Nat.shiftRight E (Nat.mul 7 (Nat.sub k 1))) 128) (rowG k ts nu es E c D D1)) false) false) false
noncomputable def rowD (k : Nat) (ts : Nat → Nat → Nat → Nat → Nat → Bool) (nu : Nat) (es : List Nat) (E c D : Nat) : Bool := frc (Nat.add D 4581298449) (rowH k ts nu es E c D)
noncomputable def rowE (T k : Nat) (ts : Nat → Nat → Nat → Nat → Nat → Bool) (i : Nat) (row : List Nat) : Bool := List.rec (motive := fun _ => Bool) false (fun nu es _ => frc (atE T i) (fun E => frc (cdE k E) (fun c => frc (nSr (degS c) 9) (rowD k ts nu es E c)))) row
theorem rowE_s {T k : Nat} {ts : Nat → Nat → Nat → Nat → Nat → Bool} {i : Nat} {row : List Nat} {X : (Nat → Nat → Nat) → Prop} (hX : ∀ m m', eqM m m' → X m → X m')
    (hts : ∀ c D a b e, (∀ v, v < 9 → dgt D v = ndg (mS c) v) → a < b → b < 9 → ts c D a b e = true → ∃ ρ ρ', pmN ρ ρ' ∧ X (fun u v => plM (mS c) a b (ρ' u) (ρ' v))) (h : rowE T k ts i row = true) : ∀ a b, a < 9 → b < 9 → a ≠ b → gdP X (mS (cdE k (atE T i))) a b := by
  rcases row with _ | ⟨nu, es⟩
  · exact Bool.noConfusion h
  · have h2 : frc (atE T i) (fun E => frc (cdE k E) (fun c => frc (nSr (degS c) 9) (rowD k ts nu es E c))) = true := h
    rw [frc_eq, frc_eq, frc_eq] at h2
    generalize cdE k (atE T i) = c at *
    generalize atE T i = E at *
    generalize nSr (degS c) 9 = D at *
    unfold rowD at h2
    rw [frc_eq] at h2
    generalize Nat.add D 4581298449 = D1 at *
    have g0 := bsel_a (show bsel (allE (degT c D) 9) (bsel (allE (d1T D D1) 9) (bsel (isoE D nu) (prE (Nat.mod (Nat.shiftRight E (Nat.mul 7 (Nat.sub k 1))) 128) (rowG k ts nu es E c D D1)) false) false) false = true from h2)
    have g1 := bsel_a g0.2
    have g := bsel_a g1.2
    have g3 := g.2
    rw [prE_eq] at g3
    have hv0 : Nat.mod (Nat.mod (Nat.shiftRight E (Nat.mul 7 (Nat.sub k 1))) 128) 9 < 9 := Nat.mod_lt _ (by decide)
    generalize Nat.mod (Nat.mod (Nat.shiftRight E (Nat.mul 7 (Nat.sub k 1))) 128) 9 = v0 at *
    generalize Nat.div (Nat.mod (Nat.shiftRight E (Nat.mul 7 (Nat.sub k 1))) 128) 9 = u0 at *
    unfold rowG at g3
    rw [frc_eq] at g3
    have g4 : chkR (ndE nu) (skE c D D1 E k u0 v0 (rkE (dgt D u0) (dgt D v0))) (ts c D) zPR es = true := g3
    have hD : ∀ v, v < 9 → dgt D v = ndg (mS c) v := fun v hv => by
      have := beq_t (show Nat.beq (dgt D v) (ndgE c v) = true from allE_s g0.1 v hv)
      rw [this, ndgE_eq]
    have hD1 : ∀ v, v < 9 → dgt D1 v = dgt D v + 1 := fun v hv => beq_t (show Nat.beq (dgt D1 v) (Nat.succ (dgt D v)) = true from allE_s g1.1 v hv)
    refine iso_red hX (fun u v => mS_sy c u v) (isoE_s hD g.1) (fun a b hab hb hn l => ?_)
    have pa : Nat.div (9 * a + b) 9 = a := by show (9 * a + b) / 9 = a; omega
    have pb : Nat.mod (9 * a + b) 9 = b := by show (9 * a + b) % 9 = b; omega
    rcases chkR_s g4 (9 * a + b) (zPR_m b hb a hab) (by rw [pa, pb]; exact ndE_s hn) with s | ⟨e, s⟩
    · rw [pa, pb] at s
      exact absurd l (skE_s hD hD1 hv0 (by omega) hb (by omega) s)
    · rw [pa, pb] at s
      exact hts c D a b e hD hab hb s
/-- the step: a renaming that leads to a graph of the next list -/
noncomputable def nbE (q w : Nat) : Nat := Nat.mod (Nat.shiftRight q (Nat.mul 4 w)) 16
noncomputable def stP (q' q w : Nat) : Bool := bsel (Nat.ble (nbE q' w) 8) (bsel (Nat.ble (nbE q w) 8) (bsel (Nat.beq (nbE q (nbE q' w)) w) (Nat.beq (nbE q' (nbE q w)) w) false) false) false
noncomputable def stQ (c1 c2 q' v u : Nat) : Bool := Nat.beq (mS c1 (nbE q' u) (nbE q' v)) (dgt c2 (Nat.add (Nat.mul 9 u) v))
noncomputable def stV (c1 c2 q' v : Nat) : Bool := allE (stQ c1 c2 q' v) v
noncomputable def stE (T k n : Nat) (c _ a b e : Nat) : Bool := frc (Nat.add (Nat.mul 9 a) b) (fun p => frc (Nat.mod e 65536) (fun j => frc (Nat.mod (Nat.shiftRight e 16) 68719476736) (fun q' => frc (Nat.shiftRight e 52) (fun q => frc (inc c p) (fun c1 => frc (cdE k (atE T j)) (fun c2 =>
  bsel (Nat.ble (Nat.succ j) n) (bsel (Nat.ble (dgt c p) 14) (bsel (allE (stP q' q) 9) (allE (stV c1 c2 q') 9) false) false) false))))))
theorem stE_s {T k n c D a b e : Nat} (hab : a < b) (hb : b < 9) (h : stE T k n c D a b e = true) : ∃ ρ ρ', pmN ρ ρ' ∧ ∃ R', (∃ j, j < n ∧ R' = mS (cdE k (atE T j))) ∧ eqM (fun u v => plM (mS c) a b (ρ' u) (ρ' v)) R' := by
  unfold stE at h
  rw [frc_eq, frc_eq, frc_eq, frc_eq, frc_eq, frc_eq] at h
  have g1 := bsel_a h
  have g2 := bsel_a g1.2
  have g3 := bsel_a g2.2
  generalize Nat.mod (Nat.shiftRight e 16) 68719476736 = q' at *
  generalize Nat.shiftRight e 52 = q at *
  generalize Nat.mod e 65536 = j at *
  have d15 : dgt c (9 * a + b) < 15 := by have := ble_t g2.1; exact Nat.lt_succ_of_le this
  have ad := mS_add hab hb d15
  have pm : pmN (nbE q) (nbE q') := by
    have w : ∀ w, w < 9 → nbE q' w < 9 ∧ nbE q w < 9 ∧ nbE q (nbE q' w) = w ∧ nbE q' (nbE q w) = w := fun w hw => by
      have k := allE_s g3.1 w hw
      have k1 := bsel_a (show bsel (Nat.ble (nbE q' w) 8) (bsel (Nat.ble (nbE q w) 8) (bsel (Nat.beq (nbE q (nbE q' w)) w) (Nat.beq (nbE q' (nbE q w)) w) false) false) false = true from k)
      have k2 := bsel_a k1.2
      have k3 := bsel_a k2.2
      have := ble_t k1.1
      have := ble_t k2.1
      exact ⟨by omega, by omega, beq_t k3.1, beq_t k3.2⟩
    exact ⟨fun v hv => (w v hv).2.1, fun v hv => ⟨(w v hv).1, (w v hv).2.2.1⟩, fun v hv => (w v hv).2.2.2⟩
  refine ⟨nbE q, nbE q', pm, mS (cdE k (atE T j)), ⟨j, ble_t g1.1, rfl⟩, ?_⟩
  have main : ∀ u v, u < v → v < 9 → mS (inc c (9 * a + b)) (nbE q' u) (nbE q' v) = mS (cdE k (atE T j)) u v := fun u v huv hv => by
    have k : allE (stQ (inc c (9 * a + b)) (cdE k (atE T j)) q' v) v = true := allE_s g3.2 v hv
    rw [mS_le (Nat.le_of_lt huv)]
    exact beq_t (allE_s k u huv)
  intro u v hu hv hne
  have n2 : nbE q' u ≠ nbE q' v := fun e => hne (by rw [← (pm.2.1 u hu).2, e, (pm.2.1 v hv).2])
  show plM (mS c) a b (nbE q' u) (nbE q' v) = _
  rw [← ad _ _ (pm.2.1 u hu).1 (pm.2.1 v hv).1 n2]
  rcases Nat.lt_or_gt_of_ne hne with g | g
  · exact main u v g hv
  · rw [mS_sy, main v u g hu, mS_sy]
