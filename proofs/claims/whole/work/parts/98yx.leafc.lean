/-! the last step: the numbers of a graph, checked by the kernel -/
theorem nP_mul {f g : Nat → Nat} {n : Nat} : nP (fun i => f i * g i) n = nP f n * nP g n := by
  induction n with
  | zero => rfl
  | succ n ih =>
    show nP (fun i => f i * g i) n * (f n * g n) = nP f n * f n * (nP g n * g n)
    rw [ih, Nat.mul_assoc, Nat.mul_assoc, Nat.mul_left_comm (nP g n)]
theorem nP_one {f : Nat → Nat} {n : Nat} (h : ∀ i, i < n → f i = 1) : nP f n = 1 := by
  induction n with
  | zero => rfl
  | succ n ih =>
    show nP f n * f n = 1
    rw [ih (fun i hi => h i (by omega)), h n (by omega)]
theorem nP_swap {f : Nat → Nat → Nat} {n m : Nat} : nP (fun i => nP (fun j => f i j) m) n = nP (fun j => nP (fun i => f i j) n) m := by
  induction n with
  | zero => exact (nP_one (fun j _ => rfl)).symm
  | succ n ih =>
    show nP (fun i => nP (fun j => f i j) m) n * nP (fun j => f n j) m = nP (fun j => nP (fun i => f i j) n * f n j) m
    rw [ih, nP_mul]
theorem nP_cut {h : Nat → Nat} {v n : Nat} (hv : v ≤ n) : nP (fun u => if u < v then h u else 1) n = nP h v := by
  induction n with
  | zero => have : v = 0 := by omega
            rw [this]; rfl
  | succ n ih =>
    by_cases e : v = n + 1
    · rw [e]; exact nP_congr (fun u hu => by rw [if_pos hu])
    · show nP (fun u => if u < v then h u else 1) n * (if n < v then h n else 1) = _
      rw [ih (by omega), if_neg (by omega), Nat.mul_one]
theorem nS_cut {h : Nat → Nat} {v n : Nat} (hv : v ≤ n) : nS (fun u => if u < v then h u else 0) n = nS h v := by
  induction n with
  | zero => have : v = 0 := by omega
            rw [this]; rfl
  | succ n ih =>
    by_cases e : v = n + 1
    · rw [e]; exact nS_congr (fun u hu => by rw [if_pos hu])
    · show nS (fun u => if u < v then h u else 0) n + (if n < v then h n else 0) = _
      rw [ih (by omega), if_neg (by omega), Nat.add_zero]
theorem nP_tri {g : Nat → Nat → Nat} : nP (fun u => nP (fun v => if u < v then g u v else 1) 9) 9 = nP (fun v => nP (fun u => g u v) v) 9 := by
  rw [nP_swap]
  exact nP_congr (fun v hv => nP_cut (h := fun u => g u v) (Nat.le_of_lt hv))
theorem nS_tri {g : Nat → Nat → Nat} : nS (fun u => nS (fun v => if u < v then g u v else 0) 9) 9 = nS (fun v => nS (fun u => g u v) v) 9 := by
  rw [nS_swap]
  exact nS_congr (fun v hv => nS_cut (h := fun u => g u v) (Nat.le_of_lt hv))
theorem nP_pos {f : Nat → Nat} {n : Nat} (h : 0 < nP f n) : ∀ i, i < n → 0 < f i := by
  induction n with
  | zero => intro i hi; omega
  | succ n ih =>
    have h2 : 0 < nP f n * f n := h
    intro i hi
    by_cases e : i = n
    · rw [e]; exact Nat.pos_of_mul_pos_left h2
    · exact ih (Nat.pos_of_mul_pos_right h2) i (by omega)
theorem nS_ge {f : Nat → Nat} {n i : Nat} (hi : i < n) : f i ≤ nS f n := by
  induction n with
  | zero => omega
  | succ n ih =>
    show f i ≤ nS f n + f n
    by_cases e : i = n
    · rw [e]; omega
    · have := ih (by omega); omega
/-- rows by functions -/
noncomputable def zlL (g : Nat → Nat) (n : Nat) : Nat → List Nat := Nat.rec (motive := fun _ => Nat → List Nat) (fun _ => []) (fun _ ih s => g s :: ih (Nat.succ s)) n
noncomputable def zlR (r : Nat → Nat) (k : Nat → Nat → Nat) (n : Nat) : Nat → List (List Nat) := Nat.rec (motive := fun _ => Nat → List (List Nat)) (fun _ => []) (fun n ih s => (r s :: zlL (k s) n (Nat.succ s)) :: ih (Nat.succ s)) n
theorem zlL_l {g : Nat → Nat} : ∀ n s, (zlL g n s).length = n := by
  intro n
  induction n with
  | zero => intro s; rfl
  | succ n ih =>
    intro s
    show (zlL g n (s + 1)).length + 1 = n + 1
    rw [ih]
theorem zlL_f {g : Nat → Nat} : ∀ n s i, i < n → zgF (zlL g n s) i = g (s + i) := by
  intro n
  induction n with
  | zero => intro s i hi; omega
  | succ n ih =>
    intro s i hi
    rcases i with _ | i
    · rfl
    · show zgF (zlL g n (s + 1)) i = g (s + (i + 1))
      rw [ih (s + 1) i (by omega)]
      congr 1
      omega
theorem zlR_h {r : Nat → Nat} {k : Nat → Nat → Nat} : ∀ n s, zgH n (zlR r k n s) := by
  intro n
  induction n with
  | zero => intro s; rfl
  | succ n ih =>
    intro s
    refine ⟨?_, ih (s + 1)⟩
    show (zlL (k s) n (s + 1)).length + 1 = n + 1
    rw [zlL_l]
theorem zlR_r {r : Nat → Nat} {k : Nat → Nat → Nat} : ∀ n s i, i < n → zgR (zlR r k n s) i = r (s + i) := by
  intro n
  induction n with
  | zero => intro s i hi; omega
  | succ n ih =>
    intro s i hi
    rcases i with _ | i
    · rfl
    · show zgR (zlR r k n (s + 1)) i = r (s + (i + 1))
      rw [ih (s + 1) i (by omega)]
      congr 1
      omega
theorem zlR_u {r : Nat → Nat} {k : Nat → Nat → Nat} : ∀ n s i j, i < j → j < n → zgU (zlR r k n s) i j = k (s + i) (s + j) := by
  intro n
  induction n with
  | zero => intro s i j _ hj; omega
  | succ n ih =>
    intro s i j hij hj
    obtain ⟨j, rfl⟩ : ∃ w, j = w + 1 := ⟨j - 1, by omega⟩
    rcases i with _ | i
    · show zgF (zlL (k s) n (s + 1)) j = k s (s + (j + 1))
      rw [zlL_f n (s + 1) j (by omega)]
      congr 1
      omega
    · show zgU (zlR r k n (s + 1)) i j = k (s + (i + 1)) (s + (j + 1))
      rw [ih (s + 1) i j (by omega) (by omega)]
      congr 1 <;> omega
/-- a pair's factor: 0 where what is wanted fails -/
noncomputable def fcE (SB x m : Nat) (θ : Nat) : Nat := Nat.rec (motive := fun _ => Nat) 1 (fun m1 _ => Nat.rec (motive := fun _ => Nat) x (fun _ _ => bsel (Nat.ble (Nat.add x θ) SB) (Nat.mul (Nat.pow (Nat.add x θ) m1) (Nat.sub x (Nat.mul m1 θ))) 0) m1) m
theorem fcE_s {SB x m θ : Nat} (h : 0 < fcE SB x m θ) : fcE SB x m θ = bnN m x θ ∧ (2 ≤ m → (m - 1) * θ < x ∧ x + θ ≤ SB) := by
  unfold bnN
  rcases m with _ | m
  · exact ⟨rfl, fun q => by omega⟩
  · rw [if_neg (by omega)]
    rcases m with _ | m
    · refine ⟨?_, fun q => by omega⟩
      show x = (x + θ) ^ 0 * (x - 0 * θ)
      rw [Nat.pow_zero, Nat.one_mul, Nat.zero_mul]
      rfl
    · have h2 : 0 < bsel (Nat.ble (Nat.add x θ) SB) (Nat.mul (Nat.pow (Nat.add x θ) (m + 1)) (Nat.sub x (Nat.mul (m + 1) θ))) 0 := h
      show bsel (Nat.ble (Nat.add x θ) SB) (Nat.mul (Nat.pow (Nat.add x θ) (m + 1)) (Nat.sub x (Nat.mul (m + 1) θ))) 0 = (x + θ) ^ (m + 1) * (x - (m + 1) * θ) ∧ _
      rcases ble_cs (Nat.add x θ) SB with ⟨q, e⟩ | ⟨q, e⟩
      · rw [q] at h2 ⊢
        have h3 : 0 < (x + θ) ^ (m + 1) * (x - (m + 1) * θ) := h2
        have h4 := Nat.pos_of_mul_pos_left h3
        exact ⟨rfl, fun _ => ⟨by show (m + 1) * θ < x; omega, e⟩⟩
      · rw [q] at h2
        exact absurd h2 (Nat.lt_irrefl 0)
noncomputable def kcE (x m θ : Nat) : Nat := Nat.rec (motive := fun _ => Nat) 0 (fun m1 _ => Nat.div (Nat.mul 16777216 m) (Nat.sub x (Nat.mul m1 θ))) m
theorem kcE_s (x m θ : Nat) : kcE x m θ * (x - (m - 1) * θ) ≤ 16777216 * m := by
  rcases m with _ | m
  · show 0 * _ ≤ _
    rw [Nat.zero_mul]; exact Nat.zero_le _
  · exact Nat.div_mul_le_self _ _
noncomputable def lfE (c1 : Nat) (f : Nat → Nat) (b M : Nat) (th : Nat → Nat → Nat) : Bool := frc (nSr f 9) (fun S => frc (Nat.add S b) (fun SB => bsel (Nat.ble SB 16777216) (bsel (Nat.ble 1 (nPr f 9))
  (Nat.ble (Nat.succ (Nat.mul (Nat.mul (Nat.mul 400 (Nat.pow (Nat.add (Nat.mul 2 S) (Nat.mul 2 b)) 9)) M) (Nat.pow 16777216 9)))
    (Nat.mul (Nat.mul (Nat.mul 387420489 (nPr (fun v => nPr (fun u => fcE SB (Nat.add (f u) (f v)) (mS c1 u v) (th u v)) v) 9)) (nPr (fun v => Nat.add (f v) b) 9)) (zfE 9 (zlR (fun v => Nat.div 16777216 (Nat.add (f v) b)) (fun u v => kcE (Nat.add (f u) (f v)) (mS c1 u v) (th u v)) 9 0)))) false) false))
theorem lfE_s {c1 : Nat} {f : Nat → Nat} {b M : Nat} {th : Nat → Nat → Nat} (hM : nmx (mS c1) f b ≤ M + nth (mS c1) th) (h : lfE c1 f b M th = true) : gdT (mS c1) := by
  unfold lfE at h
  rw [frc_eq, frc_eq] at h
  have g1 := bsel_a h
  have g2 := bsel_a g1.2
  have S0 : nSr f 9 + b ≤ 16777216 := ble_t g1.1
  have P0 : 1 ≤ nPr f 9 := ble_t g2.1
  have F0 := ble_t g2.2
  rw [nPr_eq] at P0
  rw [nSr_eq] at S0
  have fp := nP_pos (f := f) (n := 9) P0
  have F1 : 400 * (2 * nS f 9 + 2 * b) ^ 9 * M * 16777216 ^ 9 < 387420489 * nPr (fun v => nPr (fun u => fcE (nSr f 9 + b) (f u + f v) (mS c1 u v) (th u v)) v) 9 * nPr (fun v => f v + b) 9 * zfE 9 (zlR (fun v => 16777216 / (f v + b)) (fun u v => kcE (f u + f v) (mS c1 u v) (th u v)) 9 0) := by
    rw [← nSr_eq]; exact F0
  have X0 : 0 < nPr (fun v => nPr (fun u => fcE (nSr f 9 + b) (f u + f v) (mS c1 u v) (th u v)) v) 9 := by
    refine Nat.pos_of_ne_zero (fun q => ?_)
    rw [q, Nat.mul_zero, Nat.zero_mul, Nat.zero_mul] at F1
    exact absurd F1 (Nat.not_lt_zero _)
  rw [nPr_eq] at X0
  have fac : ∀ u v, u < v → v < 9 → fcE (nS f 9 + b) (f u + f v) (mS c1 u v) (th u v) = bnN (mS c1 u v) (f u + f v) (th u v) ∧ (2 ≤ mS c1 u v → (mS c1 u v - 1) * th u v < f u + f v ∧ f u + f v + th u v ≤ nS f 9 + b) := fun u v huv hv => by
    have k := nP_pos X0 v hv
    rw [nPr_eq] at k
    have k2 := nP_pos k u huv
    rw [nSr_eq] at k2
    exact fcE_s k2
  have eX : nPr (fun v => nPr (fun u => fcE (nSr f 9 + b) (f u + f v) (mS c1 u v) (th u v)) v) 9 = nxTh (mS c1) f th := by
    unfold nxTh
    rw [nP_tri, nPr_eq]
    refine nP_congr (fun v hv => ?_)
    rw [nPr_eq]
    refine nP_congr (fun u hu => ?_)
    rw [nSr_eq]
    exact (fac u v hu hv).1
  rw [eX, nPr_eq] at F1
  refine ⟨f, b, 16777216, M, th, zlR (fun v => 16777216 / (f v + b)) (fun u v => kcE (f u + f v) (mS c1 u v) (th u v)) 9 0, fp, by decide, zlR_h 9 0, fun v hv => ?_, fun v hv => ?_, fun u v huv hv => ?_, fun u v huv hv => (fac u v huv hv).2, hM, F1⟩
  · rw [zlR_r 9 0 v hv, Nat.zero_add]
    have := nS_ge (f := f) hv
    have := fp v hv
    exact Nat.div_pos (by omega) (by omega)
  · rw [zlR_r 9 0 v hv, Nat.zero_add]
    exact Nat.div_mul_le_self _ _
  · have e : zgK (zlR (fun v => 16777216 / (f v + b)) (fun u v => kcE (f u + f v) (mS c1 u v) (th u v)) 9 0) u v = kcE (f u + f v) (mS c1 u v) (th u v) := by
      unfold zgK
      rw [if_pos huv, zlR_u 9 0 u v huv hv, Nat.zero_add, Nat.zero_add]
    rw [e]
    exact kcE_s _ _ _
noncomputable def mxEe (d f : Nat → Nat) (b : Nat) : Nat := nSr (fun v => Nat.add (Nat.mul (Nat.add (f v) b) (Nat.mul (d v) (d v))) (Nat.mul (f v) (d v))) 9
theorem mxEe_eq {d f : Nat → Nat} {b : Nat} {m : Nat → Nat → Nat} (h : ∀ v, v < 9 → d v = ndg m v) : mxEe d f b = nmx m f b := by
  unfold mxEe nmx
  rw [nSr_eq]
  exact nS_congr (fun v hv => by rw [h v hv]; rfl)
noncomputable def thE (c1 : Nat) (th : Nat → Nat → Nat) : Nat := nSr (fun v => nSr (fun u => Nat.mul (Nat.mul (mS c1 u v) (Nat.sub (mS c1 u v) 1)) (th u v)) v) 9
theorem thE_eq (c1 : Nat) (th : Nat → Nat → Nat) : thE c1 th = nth (mS c1) th := by
  unfold thE nth
  rw [nS_tri, nSr_eq]
  exact nS_congr (fun v _ => nSr_eq _ _)
/-- a graph in pieces -/
noncomputable def dcB (c1 e : Nat) : Bool := frc (Nat.mod e 512) (fun k => frc (Nat.mod (Nat.shiftRight e 9) 128) (fun p => frc (Nat.shiftRight e 16) (fun q =>
  bsel (allE (fun v => allE (fun u => bsel (Nat.beq (mS c1 u v) 0) true (Nat.beq (Nat.mod (Nat.shiftRight k u) 2) (Nat.mod (Nat.shiftRight k v) 2))) v) 9)
    (bsel (Nat.ble 1 (mS c1 (Nat.div p 9) (Nat.mod p 9))) (bsel (Nat.ble (Nat.succ (Nat.div p 9)) (Nat.mod p 9)) (bsel (Nat.beq (Nat.mod (Nat.shiftRight k (Nat.div p 9)) 2) 1)
      (bsel (Nat.ble 1 (mS c1 (Nat.div q 9) (Nat.mod q 9))) (bsel (Nat.ble (Nat.succ (Nat.div q 9)) (Nat.mod q 9)) (Nat.beq (Nat.mod (Nat.shiftRight k (Nat.div q 9)) 2) 0) false) false) false) false) false) false)))
theorem dcB_s {c1 e : Nat} (h : dcB c1 e = true) : dcM (mS c1) := by
  unfold dcB at h
  rw [frc_eq, frc_eq, frc_eq] at h
  generalize Nat.mod e 512 = k at *
  generalize Nat.mod (Nat.shiftRight e 9) 128 = p at *
  generalize Nat.shiftRight e 16 = q at *
  have g1 := bsel_a h
  have g2 := bsel_a g1.2
  have g3 := bsel_a g2.2
  have g4 := bsel_a g3.2
  have g5 := bsel_a g4.2
  have g6 := bsel_a g5.2
  have pv : Nat.mod p 9 < 9 := Nat.mod_lt p (by decide)
  have qv : Nat.mod q 9 < 9 := Nat.mod_lt q (by decide)
  have p1 := ble_t g2.1
  have p2 := ble_t g3.1
  have p3 := beq_t g4.1
  have q1 := ble_t g5.1
  have q2 := ble_t g6.1
  have q3 := beq_t g6.2
  have main : ∀ u v, u < v → v < 9 → 0 < mS c1 u v → (Nat.mod (Nat.shiftRight k u) 2 = 1 ↔ Nat.mod (Nat.shiftRight k v) 2 = 1) := fun u v huv hv hm => by
    have a := allE_s (allE_s g1.1 v hv) u huv
    rcases bsel_t a with ⟨x, _⟩ | ⟨_, x⟩
    · have := beq_t x; omega
    · rw [beq_t x]
  refine ⟨fun u => Nat.mod (Nat.shiftRight k u) 2 = 1, fun u v hu hv hne hm => ?_, ⟨Nat.div p 9, Nat.mod p 9, by omega, pv, by omega, p1, p3⟩, ⟨Nat.div q 9, Nat.mod q 9, by omega, qv, by omega, q1, fun x => ?_⟩⟩
  · rcases Nat.lt_or_gt_of_ne hne with g | g
    · exact main u v g hv hm
    · exact (main v u g hu (by rw [mS_sy]; exact hm)).symm
  · have x2 : Nat.mod (Nat.shiftRight k (Nat.div q 9)) 2 = 1 := x
    rw [q3] at x2
    exact absurd x2 (by decide)
/-- the entry of a leaf: by rule (0), in pieces (1), by its own numbers (2) -/
noncomputable def ruE (d : Nat) : Nat := Nat.mod (Nat.shiftRight 3630864303362511585207405476369745842177 (Nat.mul 12 d)) 4096
noncomputable def cfE (e v : Nat) : Nat := Nat.mod (Nat.shiftRight e (Nat.mul 16 v)) 65536
noncomputable def ctE (t u v : Nat) : Nat := nSr (fun i => frc (Nat.mod (Nat.shiftRight t (Nat.mul 24 i)) 16777216) (fun x => bsel (Nat.beq (Nat.mod x 128) (Nat.add (Nat.mul 9 u) v)) (Nat.shiftRight x 7) 0)) 5
noncomputable def leE (c a b e : Nat) : Bool := frc (Nat.add (Nat.mul 9 a) b) (fun p => frc (Nat.mod e 4) (fun t => frc (Nat.shiftRight e 2) (fun x => frc (inc c p) (fun c1 => bsel (Nat.ble (dgt c p) 14)
  (bsel (Nat.beq t 0) (frc (Nat.div (nSr (fun v => ruE (dqE c a b v)) 9) 2) (fun b0 => frc (mxEe (dqE c a b) (fun v => ruE (dqE c a b v)) b0) (fun M => lfE c1 (fun v => ruE (dqE c a b v)) b0 M (fun _ _ => 0))))
    (bsel (Nat.beq t 1) (dcB c1 x)
      (frc (Nat.mod (Nat.shiftRight x 144) 1048576) (fun b0 => frc (Nat.shiftRight x 164) (fun tt => frc (Nat.sub (mxEe (dqE c a b) (cfE x) b0) (thE c1 (ctE tt))) (fun M => lfE c1 (cfE x) b0 M (ctE tt))))))) false))))
theorem leE_s {c a b e : Nat} (hab : a < b) (hb : b < 9) (h : leE c a b e = true) : ∃ ρ ρ', pmN ρ ρ' ∧ (gdT (fun u v => plM (mS c) a b (ρ' u) (ρ' v)) ∨ dcM (fun u v => plM (mS c) a b (ρ' u) (ρ' v))) := by
  unfold leE at h
  rw [frc_eq, frc_eq, frc_eq, frc_eq] at h
  have g := bsel_a h
  have d15 : dgt c (9 * a + b) < 15 := by have := ble_t g.1; exact Nat.lt_succ_of_le this
  have ad := mS_add hab hb d15
  have dq : ∀ v, v < 9 → dqE c a b v = ndg (mS (inc c (9 * a + b))) v := fun v hv => by rw [dqE_eq (by omega) hb (by omega), ndg_eq ad hv]
  refine ⟨_, _, pmN.id, ?_⟩
  show gdT (fun u v => plM (mS c) a b u v) ∨ dcM (fun u v => plM (mS c) a b u v)
  rcases bsel_t g.2 with ⟨_, k⟩ | ⟨_, k⟩
  · left
    rw [frc_eq, frc_eq] at k
    refine gdT_eq ad (lfE_s ?_ k)
    rw [mxEe_eq dq]
    exact Nat.le_add_right _ _
  · rcases bsel_t k with ⟨_, k2⟩ | ⟨_, k2⟩
    · right
      exact dcM_eq ad (dcB_s k2)
    · left
      rw [frc_eq, frc_eq, frc_eq] at k2
      refine gdT_eq ad (lfE_s ?_ k2)
      rw [mxEe_eq dq, thE_eq]
      exact Nat.sub_le_iff_le_add.mp (Nat.le_refl _)
