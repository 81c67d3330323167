/-! the last step: the numbers of a graph, checked by the kernel -/
theorem nP_mul {f g : Nat → Nat} {n : Nat} : nP (fun i => f i * g i) n = nP f n * nP g n := by
  induction n with
  | zero => rfl
  | succ n ih =>
    show nP (fun i => f i * g i) n * (f n * g n) = nP f n * f n * (nP g n * g n)
    rw [ih, Nat.mul_assoc, Nat.mul_assoc, Nat.mul_left_comm (nP g n)]
theorem nP_one {f : Nat → Nat} {n : Nat} (h : ∀ i, i < n → f i = 1) : nP f n = 1 := by
  induction n with
  | zero => rfl
  | succ n ih =>
    show nP f n * f n = 1
    rw [ih (fun i hi => h i (by omega)), h n (by omega)]
theorem nP_swap {f : Nat → Nat → Nat} {n m : Nat} : nP (fun i => nP (fun j => f i j) m) n = nP (fun j => nP (fun i => f i j) n) m := by
  induction n with
  | zero => exact (nP_one (fun j _ => rfl)).symm
  | succ n ih =>
    show nP (fun i => nP (fun j => f i j) m) n * nP (fun j => f n j) m = nP (fun j => nP (fun i => f i j) n * f n j) m
    rw [ih, nP_mul]
theorem nP_cut {h : Nat → Nat} {v n : Nat} (hv : v ≤ n) : nP (fun u => if u < v then h u else 1) n = nP h v := by
  induction n with
  | zero => have : v = 0 := by omega
            rw [this]; rfl
  | succ n ih =>
    by_cases e : v = n + 1
    · rw [e]; exact nP_congr (fun u hu => by rw [if_pos hu])
    · show nP (fun u => if u < v then h u else 1) n * (if n < v then h n else 1) = _
      rw [ih (by omega), if_neg (by omega), Nat.mul_one]
theorem nS_cut {h : Nat → Nat} {v n : Nat} (hv : v ≤ n) : nS (fun u => if u < v then h u else 0) n = nS h v := by
  induction n with
  | zero => have : v = 0 := by omega
            rw [this]; rfl
  | succ n ih =>
    by_cases e : v = n + 1
    · rw [e]; exact nS_congr (fun u hu => by rw [if_pos hu])
    · show nS (fun u => if u < v then h u else 0) n + (if n < v then h n else 0) = _
      rw [ih (by omega), if_neg (by omega), Nat.add_zero]
theorem nP_tri {g : Nat → Nat → Nat} : nP (fun u => nP (fun v => if u < v then g u v else 1) 9) 9 = nP (fun v => nP (fun u => g u v) v) 9 := by
  rw [nP_swap]
  exact nP_congr (fun v hv => nP_cut (h := fun u => g u v) (Nat.le_of_lt hv))
theorem nS_tri {g : Nat → Nat → Nat} : nS (fun u => nS (fun v => if u < v then g u v else 0) 9) 9 = nS (fun v => nS (fun u => g u v) v) 9 := by
  rw [nS_swap]
  exact nS_congr (fun v hv => nS_cut (h := fun u => g u v) (Nat.le_of_lt hv))
theorem nP_pos {f : Nat → Nat} {n : Nat} (h : 0 < nP f n) : ∀ i, i < n → 0 < f i := by
  induction n with
  | zero => intro i hi; omega
  | succ n ih =>
    have h2 : 0 < nP f n * f n := h
    intro i hi
    by_cases e : i = n
    · rw [e]; exact Nat.pos_of_mul_pos_left h2
    · exact ih (Nat.pos_of_mul_pos_right h2) i (by omega)
theorem nS_ge {f : Nat → Nat} {n i : Nat} (hi : i < n) : f i ≤ nS f n := by
  induction n with
  | zero => omega
  | succ n ih =>
    show f i ≤ nS f n + f n
    by_cases e : i = n
    · rw [e]; omega
    · have := ih (by omega); omega
/-- rows by functions -/
noncomputable def zmL (g : Nat → Nat) (n : Nat) : List Nat := Nat.rec (motive := fun _ => List Nat) [] (fun q ih => g (Nat.sub 8 q) :: ih) n
noncomputable def zmR (r : Nat → Nat) (k : Nat → Nat → Nat) (n : Nat) : List (List Nat) := Nat.rec (motive := fun _ => List (List Nat)) [] (fun p ih => (r (Nat.sub 8 p) :: zmL (k (Nat.sub 8 p)) p) :: ih) n
theorem zmL_l {g : Nat → Nat} : ∀ n, (zmL g n).length = n := by
  intro n
  induction n with
  | zero => rfl
  | succ n ih =>
    show (zmL g n).length + 1 = n + 1
    rw [ih]
theorem zmL_f {g : Nat → Nat} : ∀ n i, i < n → zgF (zmL g n) i = g (8 - (n - 1 - i)) := by
  intro n
  induction n with
  | zero => intro i hi; omega
  | succ n ih =>
    intro i hi
    rcases i with _ | i
    · show g (8 - n) = _
      congr 1
    · show zgF (zmL g n) i = _
      rw [ih i (by omega)]
      congr 1
      omega
theorem zmR_h {r : Nat → Nat} {k : Nat → Nat → Nat} : ∀ n, zgH n (zmR r k n) := by
  intro n
  induction n with
  | zero => rfl
  | succ n ih =>
    refine ⟨?_, ih⟩
    show (zmL (k (8 - n)) n).length + 1 = n + 1
    rw [zmL_l]
theorem zmR_r {r : Nat → Nat} {k : Nat → Nat → Nat} : ∀ n i, i < n → zgR (zmR r k n) i = r (8 - (n - 1 - i)) := by
  intro n
  induction n with
  | zero => intro i hi; omega
  | succ n ih =>
    intro i hi
    rcases i with _ | i
    · show r (8 - n) = _
      congr 1
    · show zgR (zmR r k n) i = _
      rw [ih i (by omega)]
      congr 1
      omega
theorem zmR_u {r : Nat → Nat} {k : Nat → Nat → Nat} : ∀ n i j, i < j → j < n → zgU (zmR r k n) i j = k (8 - (n - 1 - i)) (8 - (n - 1 - j)) := by
  intro n
  induction n with
  | zero => intro i j _ hj; omega
  | succ n ih =>
    intro i j hij hj
    obtain ⟨j, rfl⟩ : ∃ w, j = w + 1 := ⟨j - 1, by omega⟩
    rcases i with _ | i
    · show zgF (zmL (k (8 - n)) n) j = _
      rw [zmL_f n j (by omega)]
      congr 1
      omega
    · show zgU (zmR r k n) i j = _
      rw [ih i j (by omega) (by omega)]
      congr 1 <;> omega
/-- a pair's factor: 0 where what is wanted fails -/
noncomputable def fcE (SB x m : Nat) (θ : Nat) : Nat := Nat.rec (motive := fun _ => Nat) 1 (fun m1 _ => Nat.rec (motive := fun _ => Nat) x (fun _ _ => bsel (Nat.ble (Nat.add x θ) SB) (Nat.mul (Nat.pow (Nat.add x θ) m1) (Nat.sub x (Nat.mul m1 θ))) 0) m1) m
theorem fcE_s {SB x m θ : Nat} (h : 0 < fcE SB x m θ) : fcE SB x m θ = bnN m x θ ∧ (2 ≤ m → (m - 1) * θ < x ∧ x + θ ≤ SB) := by
  unfold bnN
  rcases m with _ | m
  · exact ⟨rfl, fun q => by omega⟩
  · rw [if_neg (by omega)]
    rcases m with _ | m
    · refine ⟨?_, fun q => by omega⟩
      show x = (x + θ) ^ 0 * (x - 0 * θ)
      rw [Nat.pow_zero, Nat.one_mul, Nat.zero_mul]
      rfl
    · have h2 : 0 < bsel (Nat.ble (Nat.add x θ) SB) (Nat.mul (Nat.pow (Nat.add x θ) (m + 1)) (Nat.sub x (Nat.mul (m + 1) θ))) 0 := h
      show bsel (Nat.ble (Nat.add x θ) SB) (Nat.mul (Nat.pow (Nat.add x θ) (m + 1)) (Nat.sub x (Nat.mul (m + 1) θ))) 0 = (x + θ) ^ (m + 1) * (x - (m + 1) * θ) ∧ _
      rcases ble_cs (Nat.add x θ) SB with ⟨q, e⟩ | ⟨q, e⟩
      · rw [q] at h2 ⊢
        have h3 : 0 < (x + θ) ^ (m + 1) * (x - (m + 1) * θ) := h2
        have h4 := Nat.pos_of_mul_pos_left h3
        exact ⟨rfl, fun _ => ⟨by show (m + 1) * θ < x; omega, e⟩⟩
      · rw [q] at h2
        exact absurd h2 (Nat.lt_irrefl 0)
noncomputable def kcE (x m θ : Nat) : Nat := Nat.rec (motive := fun _ => Nat) 0 (fun m1 _ => Nat.div (Nat.mul 16777216 m) (Nat.sub x (Nat.mul m1 θ))) m
theorem kcE_s (x m θ : Nat) : kcE x m θ * (x - (m - 1) * θ) ≤ 16777216 * m := by
  rcases m with _ | m
  · show 0 * _ ≤ _
    rw [Nat.zero_mul]; exact Nat.zero_le _
  · exact Nat.div_mul_le_self _ _
noncomputable def facH (f : Nat → Nat) (SB : Nat) (th : Nat → Nat → Nat) (u v m1 : Nat) : Nat := fcE SB (Nat.add (f u) (f v)) (Nat.succ m1) (th u v)
noncomputable def facE (c1 : Nat) (f : Nat → Nat) (SB : Nat) (th : Nat → Nat → Nat) (v u : Nat) : Nat := Nat.rec (motive := fun _ => Nat) 1 (fun m1 _ => facH f SB th u v m1) (dgt c1 (Nat.add (Nat.mul 9 u) v))
noncomputable def facV (c1 : Nat) (f : Nat → Nat) (SB : Nat) (th : Nat → Nat → Nat) (v : Nat) : Nat := nPr (facE c1 f SB th v) v
noncomputable def kacH (f : Nat → Nat) (th : Nat → Nat → Nat) (u v m1 : Nat) : Nat := kcE (Nat.add (f u) (f v)) (Nat.succ m1) (th u v)
noncomputable def kacE (c1 : Nat) (f : Nat → Nat) (th : Nat → Nat → Nat) (u v : Nat) : Nat := Nat.rec (motive := fun _ => Nat) 0 (fun m1 _ => kacH f th u v m1) (dgt c1 (Nat.add (Nat.mul 9 u) v))
noncomputable def racE (f : Nat → Nat) (b v : Nat) : Nat := Nat.div 16777216 (Nat.add (f v) b)
noncomputable def aacE (f : Nat → Nat) (b v : Nat) : Nat := Nat.add (f v) b
theorem facE_eq {c1 : Nat} {f : Nat → Nat} {SB : Nat} {th : Nat → Nat → Nat} {u v : Nat} (huv : u < v) : facE c1 f SB th v u = fcE SB (f u + f v) (mS c1 u v) (th u v) := by
  rw [mS_le (Nat.le_of_lt huv)]
  unfold facE
  show Nat.rec (motive := fun _ => Nat) 1 (fun m1 _ => facH f SB th u v m1) (dgt c1 (9 * u + v)) = _
  cases dgt c1 (9 * u + v) <;> rfl
theorem kacE_eq {c1 : Nat} {f : Nat → Nat} {th : Nat → Nat → Nat} {u v : Nat} (huv : u < v) : kacE c1 f th u v = kcE (f u + f v) (mS c1 u v) (th u v) := by
  rw [mS_le (Nat.le_of_lt huv)]
  unfold kacE
  show Nat.rec (motive := fun _ => Nat) 0 (fun m1 _ => kacH f th u v m1) (dgt c1 (9 * u + v)) = _
  cases dgt c1 (9 * u + v) <;> rfl
noncomputable def lfE (c1 : Nat) (f : Nat → Nat) (b M : Nat) (th : Nat → Nat → Nat) : Bool := frc (nSr f 9) (fun S => frc (Nat.add S b) (fun SB => bsel (Nat.ble SB 16777216) (bsel (Nat.ble 1 (nPr f 9))
  (Nat.ble (Nat.succ (Nat.mul (Nat.mul (Nat.mul 400 (Nat.pow (Nat.add (Nat.mul 2 S) (Nat.mul 2 b)) 9)) M) (Nat.pow 16777216 9)))
    (Nat.mul (Nat.mul (Nat.mul 387420489 (nPr (facV c1 f SB th) 9)) (nPr (aacE f b) 9)) (zfE 9 (zmR (racE f b) (kacE c1 f th) 9)))) false) false))
theorem lfE_s {c1 : Nat} {f : Nat → Nat} {b M : Nat} {th : Nat → Nat → Nat} (hM : nmx (mS c1) f b ≤ M + nth (mS c1) th) (h : lfE c1 f b M th = true) : gdT (mS c1) := by
  unfold lfE at h
  rw [frc_eq, frc_eq] at h
  have g1 := bsel_a h
  have g2 := bsel_a g1.2
  have S0 : nSr f 9 + b ≤ 16777216 := ble_t g1.1
  have P0 : 1 ≤ nPr f 9 := ble_t g2.1
  have F0 := ble_t g2.2
  rw [nPr_eq] at P0
  rw [nSr_eq] at S0
  have fp := nP_pos (f := f) (n := 9) P0
  have F1 : 400 * (2 * nS f 9 + 2 * b) ^ 9 * M * 16777216 ^ 9 < 387420489 * nPr (facV c1 f (nSr f 9 + b) th) 9 * nPr (aacE f b) 9 * zfE 9 (zmR (racE f b) (kacE c1 f th) 9) := by
    rw [← nSr_eq]; exact F0
  have X0 : 0 < nPr (facV c1 f (nSr f 9 + b) th) 9 := by
    refine Nat.pos_of_ne_zero (fun q => ?_)
    rw [q, Nat.mul_zero, Nat.zero_mul, Nat.zero_mul] at F1
    exact absurd F1 (Nat.not_lt_zero _)
  rw [nPr_eq] at X0
  have fac : ∀ u v, u < v → v < 9 → facE c1 f (nSr f 9 + b) th v u = bnN (mS c1 u v) (f u + f v) (th u v) ∧ (2 ≤ mS c1 u v → (mS c1 u v - 1) * th u v < f u + f v ∧ f u + f v + th u v ≤ nS f 9 + b) := fun u v huv hv => by
    have k : 0 < nPr (facE c1 f (nSr f 9 + b) th v) v := nP_pos X0 v hv
    rw [nPr_eq] at k
    have k2 := nP_pos k u huv
    rw [facE_eq huv] at k2 ⊢
    rw [nSr_eq] at k2 ⊢
    exact fcE_s k2
  have eX : nPr (facV c1 f (nSr f 9 + b) th) 9 = nxTh (mS c1) f th := by
    unfold nxTh
    rw [nP_tri, nPr_eq]
    refine nP_congr (fun v hv => ?_)
    show nPr (facE c1 f (nSr f 9 + b) th v) v = _
    rw [nPr_eq]
    exact nP_congr (fun u hu => (fac u v hu hv).1)
  rw [eX, nPr_eq] at F1
  refine ⟨f, b, 16777216, M, th, zmR (racE f b) (kacE c1 f th) 9, fp, by decide, zmR_h 9, fun v hv => ?_, fun v hv => ?_, fun u v huv hv => ?_, fun u v huv hv => (fac u v huv hv).2, hM, F1⟩
  · have e : 8 - (9 - 1 - v) = v := by omega
    rw [zmR_r 9 v hv, e]
    have := nS_ge (f := f) hv
    have := fp v hv
    exact Nat.div_pos (by show f v + b ≤ 16777216; omega) (by show 0 < f v + b; omega)
  · have e : 8 - (9 - 1 - v) = v := by omega
    rw [zmR_r 9 v hv, e]
    exact Nat.div_mul_le_self _ _
  · have e1 : 8 - (9 - 1 - u) = u := by omega
    have e2 : 8 - (9 - 1 - v) = v := by omega
    have e : zgK (zmR (racE f b) (kacE c1 f th) 9) u v = kcE (f u + f v) (mS c1 u v) (th u v) := by
      unfold zgK
      rw [if_pos huv, zmR_u 9 u v huv hv, e1, e2, kacE_eq huv]
    rw [e]
    exact kcE_s _ _ _
noncomputable def mxT (d f : Nat → Nat) (b v : Nat) : Nat := Nat.add (Nat.mul (Nat.add (f v) b) (Nat.mul (d v) (d v))) (Nat.mul (f v) (d v))
noncomputable def mxEe (d f : Nat → Nat) (b : Nat) : Nat := nSr (mxT d f b) 9
theorem mxEe_eq {d f : Nat → Nat} {b : Nat} {m : Nat → Nat → Nat} (h : ∀ v, v < 9 → d v = ndg m v) : mxEe d f b = nmx m f b := by
  unfold mxEe nmx
  rw [nSr_eq]
  exact nS_congr (fun v hv => by unfold mxT; rw [h v hv]; rfl)
noncomputable def thE (c1 : Nat) (th : Nat → Nat → Nat) : Nat := nSr (fun v => nSr (fun u => Nat.mul (Nat.mul (mS c1 u v) (Nat.sub (mS c1 u v) 1)) (th u v)) v) 9
theorem thE_eq (c1 : Nat) (th : Nat → Nat → Nat) : thE c1 th = nth (mS c1) th := by
  unfold thE nth
  rw [nS_tri, nSr_eq]
  exact nS_congr (fun v _ => nSr_eq _ _)
/-- a graph in pieces -/
noncomputable def dcU (k v u : Nat) : Bool := Nat.beq (Nat.mod (Nat.shiftRight k u) 2) (Nat.mod (Nat.shiftRight k v) 2)
noncomputable def dcT (c1 k v u : Nat) : Bool := Nat.rec (motive := fun _ => Bool) true (fun _ _ => dcU k v u) (dgt c1 (Nat.add (Nat.mul 9 u) v))
noncomputable def dcV (c1 k v : Nat) : Bool := allE (dcT c1 k v) v
noncomputable def dcB (c1 e : Nat) : Bool := frc (Nat.mod e 512) (fun k => frc (Nat.mod (Nat.shiftRight e 9) 128) (fun p => frc (Nat.shiftRight e 16) (fun q =>
  bsel (allE (dcV c1 k) 9)
    (bsel (Nat.ble 1 (mS c1 (Nat.div p 9) (Nat.mod p 9))) (bsel (Nat.ble (Nat.succ (Nat.div p 9)) (Nat.mod p 9)) (bsel (Nat.beq (Nat.mod (Nat.shiftRight k (Nat.div p 9)) 2) 1)
      (bsel (Nat.ble 1 (mS c1 (Nat.div q 9) (Nat.mod q 9))) (bsel (Nat.ble (Nat.succ (Nat.div q 9)) (Nat.mod q 9)) (Nat.beq (Nat.mod (Nat.shiftRight k (Nat.div q 9)) 2) 0) false) false) false) false) false) false)))
theorem dcB_s {c1 e : Nat} (h : dcB c1 e = true) : dcM (mS c1) := by
  unfold dcB at h
  rw [frc_eq, frc_eq, frc_eq] at h
  generalize Nat.mod e 512 = k at *
  generalize Nat.mod (Nat.shiftRight e 9) 128 = p at *
  generalize Nat.shiftRight e 16 = q at *
  have g1 := bsel_a h
  have g2 := bsel_a g1.2
  have g3 := bsel_a g2.2
  have g4 := bsel_a g3.2
  have g5 := bsel_a g4.2
  have g6 := bsel_a g5.2
  have pv : Nat.mod p 9 < 9 := Nat.mod_lt p (by decide)
  have qv : Nat.mod q 9 < 9 := Nat.mod_lt q (by decide)
  have p1 := ble_t g2.1
  have p2 := ble_t g3.1
  have p3 := beq_t g4.1
  have q1 := ble_t g5.1
  have q2 := ble_t g6.1
  have q3 := beq_t g6.2
  have main : ∀ u v, u < v → v < 9 → 0 < mS c1 u v → (Nat.mod (Nat.shiftRight k u) 2 = 1 ↔ Nat.mod (Nat.shiftRight k v) 2 = 1) := fun u v huv hv hm => by
    have a := allE_s (show allE (dcT c1 k v) v = true from allE_s g1.1 v hv) u huv
    have a2 : Nat.rec (motive := fun _ => Bool) true (fun _ _ => dcU k v u) (dgt c1 (9 * u + v)) = true := a
    rw [mS_le (Nat.le_of_lt huv)] at hm
    revert hm a2
    cases dgt c1 (9 * u + v) with
    | zero => intro hm _; exact absurd hm (Nat.lt_irrefl 0)
    | succ n =>
      intro _ a3
      have x : Nat.beq (Nat.mod (Nat.shiftRight k u) 2) (Nat.mod (Nat.shiftRight k v) 2) = true := a3
      rw [beq_t x]
  refine ⟨fun u => Nat.mod (Nat.shiftRight k u) 2 = 1, fun u v hu hv hne hm => ?_, ⟨Nat.div p 9, Nat.mod p 9, by omega, pv, by omega, p1, p3⟩, ⟨Nat.div q 9, Nat.mod q 9, by omega, qv, by omega, q1, fun x => ?_⟩⟩
  · rcases Nat.lt_or_gt_of_ne hne with g | g
    · exact main u v g hv hm
    · exact (main v u g hu (by rw [mS_sy]; exact hm)).symm
  · have x2 : Nat.mod (Nat.shiftRight k (Nat.div q 9)) 2 = 1 := x
    rw [q3] at x2
    exact absurd x2 (by decide)
/-- the entry of a leaf: by rule (0), in pieces (1), by its own numbers (2) -/
noncomputable def ruE (d : Nat) : Nat := Nat.mod (Nat.shiftRight 3630864303362511585207405476369745842177 (Nat.mul 12 d)) 4096
noncomputable def cfE (e v : Nat) : Nat := Nat.mod (Nat.shiftRight e (Nat.mul 16 v)) 65536
noncomputable def ctE (t u v : Nat) : Nat := nSr (fun i => frc (Nat.mod (Nat.shiftRight t (Nat.mul 24 i)) 16777216) (fun x => bsel (Nat.beq (Nat.mod x 128) (Nat.add (Nat.mul 9 u) v)) (Nat.shiftRight x 7) 0)) 5
noncomputable def ruS (D a b v : Nat) : Nat := Nat.shiftLeft (ruE (dqE D a b v)) (Nat.mul 16 v)
noncomputable def thZ (_ _ : Nat) : Nat := 0
noncomputable def leR (c1 D a b F : Nat) : Bool := frc (Nat.div (nSr (cfE F) 9) 2) (fun b0 => frc (mxEe (dqE D a b) (cfE F) b0) (fun M => lfE c1 (cfE F) b0 M thZ))
noncomputable def leO (c1 D a b x : Nat) : Bool := frc (Nat.mod (Nat.shiftRight x 144) 1048576) (fun b0 => frc (Nat.shiftRight x 164) (fun tt => frc (Nat.sub (mxEe (dqE D a b) (cfE x) b0) (thE c1 (ctE tt))) (fun M => lfE c1 (cfE x) b0 M (ctE tt))))
noncomputable def leE (c D a b e : Nat) : Bool := frc (Nat.add (Nat.mul 9 a) b) (fun p => frc (Nat.mod e 4) (fun t => frc (Nat.shiftRight e 2) (fun x => frc (inc c p) (fun c1 => bsel (Nat.ble (dgt c p) 14)
  (bsel (Nat.beq t 0) (frc (nSr (ruS D a b) 9) (leR c1 D a b)) (bsel (Nat.beq t 1) (dcB c1 x) (leO c1 D a b x))) false))))
theorem leE_s {c D a b e : Nat} (hD : ∀ v, v < 9 → dgt D v = ndg (mS c) v) (hab : a < b) (hb : b < 9) (h : leE c D a b e = true) : ∃ ρ ρ', pmN ρ ρ' ∧ (gdT (fun u v => plM (mS c) a b (ρ' u) (ρ' v)) ∨ dcM (fun u v => plM (mS c) a b (ρ' u) (ρ' v))) := by
  unfold leE at h
  rw [frc_eq, frc_eq, frc_eq, frc_eq] at h
  have g := bsel_a h
  have d15 : dgt c (9 * a + b) < 15 := by have := ble_t g.1; exact Nat.lt_succ_of_le this
  have ad := mS_add hab hb d15
  have dq : ∀ v, v < 9 → dqE D a b v = ndg (mS (inc c (9 * a + b))) v := fun v hv => by rw [dqE_eq hD (by omega) hb (by omega) hv, ndg_eq ad hv]
  refine ⟨_, _, pmN.id, ?_⟩
  show gdT (fun u v => plM (mS c) a b u v) ∨ dcM (fun u v => plM (mS c) a b u v)
  rcases bsel_t g.2 with ⟨_, k⟩ | ⟨_, k⟩
  · left
    rw [frc_eq] at k
    unfold leR at k
    rw [frc_eq, frc_eq] at k
    refine gdT_eq ad (lfE_s ?_ k)
    rw [mxEe_eq dq]
    exact Nat.le_add_right _ _
  · rcases bsel_t k with ⟨_, k2⟩ | ⟨_, k2⟩
    · right
      exact dcM_eq ad (dcB_s k2)
    · left
      unfold leO at k2
      rw [frc_eq, frc_eq, frc_eq] at k2
      refine gdT_eq ad (lfE_s ?_ k2)
      rw [mxEe_eq dq, thE_eq]
      exact Nat.sub_le_iff_le_add.mp (Nat.le_refl _)
