/-! a graph's form out of natural numbers: the end -/
def hkdg (eu ev : Nat → Nat) (v : Nat) : Rat := hR 10 (fun c => if eu c = v ∨ ev c = v then 1 else 0)
def hkmx (eu ev : Nat → Nat) (f : Nat → Rat) (b : Rat) : Rat := hR 9 (fun v => (f v + b) * (hkdg eu ev v * hkdg eu ev v) + f v * hkdg eu ev v)
def hkCE1 (eu ev : Nat → Nat) : Prop := ∃ (Q : Nat → Nat → Rat) (g t W : Rat), hky Q ∧ hkP 10 Q ∧ 0 < t ∧ (∀ z : Nat → Int, hkRG eu ev z → hkQ 10 Q (fun c => (z c : Rat)) ≤ g) ∧
  (∀ x : Nat → Rat, (∀ c, c < 10 → -2000 ≤ x c ∧ x c ≤ 2000) → hkQ 10 Q x ≤ W) ∧ (g + t) ^ 10 * W < t * hkD 10 Q * (((10000000 : Nat) : Int) * ((10000000 : Nat) : Int) : Rat)
theorem hkCE_of (h : ∀ eu ev : Nat → Nat, (∀ c, c < 10 → eu c < 9 ∧ ev c < 9 ∧ eu c ≠ ev c) → hkCE1 eu ev) : hkCE := h
theorem rsq_le {y a : Rat} (h1 : -a ≤ y) (h2 : y ≤ a) : y * y ≤ a * a := by
  have := Rat.mul_nonneg (a := a - y) (b := a + y) (by grind) (by grind)
  grind
theorem hkNQ_box {eu ev : Nat → Nat} {f : Nat → Rat} {b : Rat} (hO : ∀ c, c < 10 → eu c < 9 ∧ ev c < 9 ∧ eu c ≠ ev c) (hf : ∀ v, v < 9 → 0 ≤ f v) (hb : 0 ≤ b) {x : Nat → Rat} (h : ∀ c, c < 10 → -2000 ≤ x c ∧ x c ≤ 2000) :
    hkQ 10 (hkNQ eu ev f b (fun _ _ => 0)) x ≤ 4000000 * hkmx eu ev f b := by
  rw [hkNQ_v0]
  have e1 : hR 10 (fun c => hkx eu ev f c * (x c * x c)) ≤ 4000000 * hR 9 (fun v => f v * hkdg eu ev v) := by
    have t := hk_deg (f := f) (m := 10) hO (fun _ => 1)
    have t2 : hR 9 (fun v => f v * hkdg eu ev v) = hR 10 (fun c => (f (eu c) + f (ev c)) * 1) := t.symm
    rw [t2, ← hR_mul]
    refine hR_le (fun c hc => ?_)
    obtain ⟨a1, a2, _⟩ := hO c hc
    have s := rsq_le (h c hc).1 (h c hc).2
    have m := Rat.mul_nonneg (a := f (eu c) + f (ev c)) (b := 2000 * 2000 - x c * x c) (by have := hf _ a1; have := hf _ a2; grind) (by grind)
    unfold hkx
    grind
  have e2 : hR 9 (fun v => (f v + b) * (hR 10 (fun c => hksv eu ev v c * x c) * hR 10 (fun c => hksv eu ev v c * x c))) ≤ 4000000 * hR 9 (fun v => (f v + b) * (hkdg eu ev v * hkdg eu ev v)) := by
    rw [← hR_mul]
    refine hR_le (fun v hv => ?_)
    have sv : ∀ c, c < 10 → -(2000 * (if eu c = v ∨ ev c = v then 1 else 0)) ≤ hksv eu ev v c * x c ∧ hksv eu ev v c * x c ≤ 2000 * (if eu c = v ∨ ev c = v then (1 : Rat) else 0) := fun c hc => by
      obtain ⟨_, _, a3⟩ := hO c hc
      have hc2 := h c hc
      unfold hksv iv
      by_cases q1 : ev c = v
      · have n1 : ¬ eu c = v := fun q => a3 (q.trans q1.symm)
        rw [if_pos (Or.inr q1), if_pos q1, if_neg n1]
        have : (((1 - 0 : Int)) : Rat) = 1 := rfl
        rw [this]
        grind
      · by_cases q2 : eu c = v
        · rw [if_neg q1, if_pos q2, if_pos (Or.inl q2)]
          have : (((0 - 1 : Int)) : Rat) = -1 := rfl
          rw [this]
          grind
        · rw [if_neg q1, if_neg q2, if_neg (fun q => q.elim q2 q1)]
          have : (((0 - 0 : Int)) : Rat) = 0 := rfl
          rw [this]
          grind
    have u1 := hR_le (n := 10) (fun c hc => (sv c hc).2)
    have u2 := hR_le (n := 10) (f := fun c => (-1) * (hksv eu ev v c * x c)) (g := fun c => 2000 * (if eu c = v ∨ ev c = v then (1 : Rat) else 0)) (fun c hc => by have := (sv c hc).1; grind)
    rw [hR_mul] at u1
    rw [hR_mul, hR_mul] at u2
    have s := rsq_le (y := hR 10 (fun c => hksv eu ev v c * x c)) (a := 2000 * hkdg eu ev v) (by unfold hkdg; grind) (by unfold hkdg; exact u1)
    have m := Rat.mul_nonneg (a := f v + b) (b := 2000 * hkdg eu ev v * (2000 * hkdg eu ev v) - hR 10 (fun c => hksv eu ev v c * x c) * hR 10 (fun c => hksv eu ev v c * x c)) (by have := hf v hv; grind) (by grind)
    generalize hR 10 (fun c => hksv eu ev v c * x c) = Y at *
    generalize hkdg eu ev v = D at *
    clear sv u1 u2
    grind
  unfold hkmx
  rw [hR_add]
  grind
theorem hk_leaf {eu ev : Nat → Nat} {f : Nat → Rat} {b K : Rat} {rows : List (List Nat)} (hO : ∀ c, c < 10 → eu c < 9 ∧ ev c < 9 ∧ eu c ≠ ev c) (hf : ∀ v, v < 9 → 0 < f v) (hb : 0 ≤ b) (hK : 0 < K) (hH : zgH 9 rows) (hp : ∀ p, p ∈ zgE 9 rows → 0 < p) (h0 : ∀ v, v < 9 → 0 < zgR rows v)
    (hr : ∀ v, v < 9 → ((zgR rows v : Nat) : Rat) * (f v + b) ≤ K) (hk : ∀ u v, u < 9 → v < 9 → u ≠ v → ((zgK rows u v : Nat) : Rat) * (f u + f v) ≤ K * hkMu eu ev u v)
    (fin : 400 * (2 * hR 9 f + 2 * b) ^ 9 * hkmx eu ev f b * K ^ 9 * ((zgD (zgE 9 rows) : Nat) : Rat) < 387420489 * hpR (hkx eu ev f) 10 * hpR (fun v => f v + b) 9 * ((zgN (zgE 9 rows) : Nat) : Rat)) : hkCE1 eu ev := by
  have ha : ∀ v, v < 9 → 0 < f v + b := fun v hv => by have := hf v hv; grind
  have hx : ∀ u v, u < 9 → v < 9 → u ≠ v → 0 < f u + f v := fun u v hu hv _ => by have := hf u hu; have := hf v hv; grind
  have hxc : ∀ c, c < 10 → 0 < hkx eu ev f c := fun c hc => by
    obtain ⟨a1, a2, a3⟩ := hO c hc
    exact hx _ _ a1 a2 a3
  have F0 : 0 < hR 9 f := by
    have := hR_lea (n := 9) (f := f) (fun i hi => by have := hf i hi; grind) (i := 0) (by omega)
    have := hf 0 (by omega)
    grind
  have ks : ∀ u v, ((zgK rows u v : Nat) : Rat) = ((zgK rows v u : Nat) : Rat) := fun u v => by
    have : zgK rows u v = zgK rows v u := by
      unfold zgK
      by_cases a : u < v
      · rw [if_pos a, if_neg (by omega), if_pos a]
      · by_cases c : v < u
        · rw [if_neg a, if_pos c, if_pos c]
        · rw [if_neg a, if_neg c, if_neg c, if_neg a]
    rw [this]
  have Lsy : hky (zgL 9 rows) := fun u v => by
    show hkLp 9 _ _ u v = hkLp 9 _ _ v u
    unfold hkLp
    by_cases q : u = v
    · rw [q]
    · rw [if_neg q, if_neg (Ne.symm q)]
      show -((zgK rows u v : Nat) : Rat) = -((zgK rows v u : Nat) : Rat)
      rw [ks u v]
  have iK := rdiv1 hK
  have PL : hkP 9 (fun i j => 1 / K * zgL 9 rows i j) := hkP_of (fun i j => by show 1 / K * zgL 9 rows i j = 1 / K * zgL 9 rows j i; rw [Lsy i j]) (fun z ⟨i, hi, hi2⟩ => by
    rw [hkQ_sc]
    refine Rat.mul_pos iK ?_
    have q1 : 2 * hkQ 9 (zgL 9 rows) z = 2 * hR 9 (fun u => ((zgR rows u : Nat) : Rat) * (z u * z u)) + hR 9 (fun u => hR 9 (fun v => if v = u then 0 else ((zgK rows u v : Nat) : Rat) * ((z u - z v) * (z u - z v)))) := hkLp_Q ks z
    have n1 : 0 ≤ hR 9 (fun u => hR 9 (fun v => if v = u then 0 else ((zgK rows u v : Nat) : Rat) * ((z u - z v) * (z u - z v)))) := hR_nn (fun u _ => hR_nn (fun v _ => by
      by_cases q : v = u
      · rw [if_pos q]; grind
      · rw [if_neg q]; exact Rat.mul_nonneg Rat.natCast_nonneg (rsq _)))
    have n2 := hR_lea (n := 9) (f := fun u => ((zgR rows u : Nat) : Rat) * (z u * z u)) (fun u _ => Rat.mul_nonneg Rat.natCast_nonneg (rsq _)) hi
    have n3 := Rat.mul_pos (a := ((zgR rows i : Nat) : Rat)) (Rat.natCast_pos.mpr (h0 i hi)) (rsq_pos hi2)
    grind)
  have mono := (hkD_mono (fun i j => by show 1 / K * zgL 9 rows i j = 1 / K * zgL 9 rows j i; rw [Lsy i j]) (hkN_sy eu ev f b 10) PL (hkN_rows hO ha hx hK hr hk)).2
  have K0 : 1 / K ≠ 0 := by grind
  rw [hkD_sc K0] at mono
  have nd := hk_ND (eu := eu) (ev := ev) (f := f) (b := b) ha 10 hxc
  have n0 : hkD 9 (hkN eu ev f b 0) * hpR (fun v => f v + b) 9 = 1 := by
    rw [hkD_dg (fun u v hne => by show (if u = v then 1 / (f u + b) else 0) + 0 = 0; rw [if_neg hne]; grind)]
    have e : (fun u => hkN eu ev f b 0 u u) = fun u => 1 / (f u + b) := funext fun u => by
      show (if u = u then 1 / (f u + b) else 0) + 0 = _
      rw [if_pos rfl]; grind
    rw [e]
    exact hpR_inv (f := fun v => f v + b) (fun i hi => by have := ha i hi; grind)
  have zd := zgE_D hH hp
  have A0 := hpR_nn (f := fun v => f v + b) (n := 9) ha
  have X0 := hpR_nn (f := hkx eu ev f) (n := 10) hxc
  have Q0 := hkD_pos (hkNQ_P (b := b) ha hxc)
  have Kp : 0 < K ^ 9 := by
    have : ∀ n : Nat, 0 < K ^ n := fun n => by
      induction n with
      | zero => have : K ^ 0 = 1 := by grind
                rw [this]; decide
      | succ n ih =>
        have : K ^ (n + 1) = K * K ^ n := by grind
        rw [this]; exact Rat.mul_pos hK ih
    exact this 9
  have kk : K ^ 9 * (1 / K) ^ 9 = 1 := by
    have : K ^ 9 * (1 / K) ^ 9 = (K * (1 / K)) ^ 9 := by grind
    rw [this]
    have : K * (1 / K) = 1 := by grind
    rw [this]
    grind
  have dn : 0 ≤ ((zgD (zgE 9 rows) : Nat) : Rat) := Rat.natCast_nonneg
  -- det Q from below
  have low : hpR (hkx eu ev f) 10 * hpR (fun v => f v + b) 9 * ((zgN (zgE 9 rows) : Nat) : Rat) ≤ hkD 10 (hkNQ eu ev f b (fun _ _ => 0)) * K ^ 9 * ((zgD (zgE 9 rows) : Nat) : Rat) := by
    rw [← zd]
    generalize hkD 9 (hkN eu ev f b 0) = N0 at *
    generalize hpR (fun v => f v + b) 9 = A at *
    generalize hpR (hkx eu ev f) 10 = X at *
    generalize hkD 10 (hkNQ eu ev f b (fun _ _ => 0)) = D at *
    generalize hkD 9 (hkN eu ev f b 10) = N1 at *
    generalize hkD 9 (zgL 9 rows) = L at *
    generalize ((zgD (zgE 9 rows) : Nat) : Rat) = Z at *
    generalize (1 / K) ^ 9 = R at *
    generalize K ^ 9 = P at *
    clear fin zd
    -- X N1 <= D N0, R L <= N1, N0 A = 1, P R = 1
    have s1 := Rat.mul_nonneg (a := A) (b := D * N0 - X * N1) (by grind) (by grind)
    have s2 := Rat.mul_nonneg (a := A * X) (b := N1 - R * L) (Rat.mul_nonneg (by grind) (by grind)) (by grind)
    have s3 : A * X * (R * L) ≤ D := by
      have : A * (D * N0) = D := by
        have : A * (D * N0) = D * (N0 * A) := by grind
        rw [this, n0]; grind
      grind
    have s4 := Rat.mul_nonneg (a := P) (b := D - A * X * (R * L)) (by grind) (by grind)
    have s5 : P * (A * X * (R * L)) = X * A * L := by
      have : P * (A * X * (R * L)) = (P * R) * (X * A * L) := by grind
      rw [this, kk]; grind
    have s6 := Rat.mul_nonneg (a := Z) (b := P * D - X * A * L) dn (by grind)
    grind
  refine ⟨hkNQ eu ev f b (fun _ _ => 0), 2 * hR 9 f + 2 * b, (2 * hR 9 f + 2 * b) / 9, 4000000 * hkmx eu ev f b, hkNQ_sy eu ev f b _, hkNQ_P ha hxc, by grind, fun z hz => hkNQ_rg hO (fun v hv => by have := hf v hv; grind) hb (fun c d hc hd hcd e1 e2 => ?_) hz, fun x hx2 => hkNQ_box hO (fun v hv => by have := hf v hv; grind) hb hx2, ?_⟩
  · obtain ⟨a1, a2, a3⟩ := hO c hc
    have := hR_le (n := 9) (f := fun v => (if v = eu c then f (eu c) else 0) + (if v = ev c then f (ev c) else 0)) (g := f) (fun v hv => by
      have fv := hf v hv
      by_cases q1 : v = eu c
      · rw [if_pos q1, if_neg (by omega), q1]; grind
      · by_cases q2 : v = ev c
        · rw [if_neg q1, if_pos q2, q2]; grind
        · rw [if_neg q1, if_neg q2]; grind)
    rw [hR_add, hR_one (c := eu c) a1 (fun v _ hne => by rw [if_neg hne]), hR_one (c := ev c) a2 (fun v _ hne => by rw [if_neg hne]), if_pos rfl, if_pos rfl] at this
    grind
  · have NN : (((10000000 : Nat) : Int) : Rat) * (((10000000 : Nat) : Int) : Rat) = 100000000000000 := by
      have e7 : (((10000000 : Nat) : Int) : Rat) = 10000000 := rfl
      rw [e7]
      grind
    rw [NN]
    have key : 400 * (2 * hR 9 f + 2 * b) ^ 9 * hkmx eu ev f b < 387420489 * hkD 10 (hkNQ eu ev f b (fun _ _ => 0)) := by
      rcases Rat.le_total (a := 387420489 * hkD 10 (hkNQ eu ev f b (fun _ _ => 0))) (b := 400 * (2 * hR 9 f + 2 * b) ^ 9 * hkmx eu ev f b) with q | q
      · exfalso
        have KZ := Rat.mul_nonneg (a := K ^ 9) (b := ((zgD (zgE 9 rows) : Nat) : Rat)) (by grind) dn
        generalize 400 * (2 * hR 9 f + 2 * b) ^ 9 * hkmx eu ev f b = U at *
        generalize hkD 10 (hkNQ eu ev f b (fun _ _ => 0)) = D at *
        generalize hpR (hkx eu ev f) 10 = X at *
        generalize hpR (fun v => f v + b) 9 = A at *
        generalize ((zgN (zgE 9 rows) : Nat) : Rat) = N at *
        generalize ((zgD (zgE 9 rows) : Nat) : Rat) = Z at *
        generalize K ^ 9 = P at *
        have s := Rat.mul_nonneg (a := U - 387420489 * D) (b := P * Z) (by grind) KZ
        clear zd mono nd n0 kk
        grind
      · rcases Classical.em (400 * (2 * hR 9 f + 2 * b) ^ 9 * hkmx eu ev f b = 387420489 * hkD 10 (hkNQ eu ev f b (fun _ _ => 0))) with e | e
        · exfalso
          have e2 : 400 * (2 * hR 9 f + 2 * b) ^ 9 * hkmx eu ev f b * K ^ 9 * ((zgD (zgE 9 rows) : Nat) : Rat) = 387420489 * (hkD 10 (hkNQ eu ev f b (fun _ _ => 0)) * K ^ 9 * ((zgD (zgE 9 rows) : Nat) : Rat)) := by rw [e]; grind
          generalize hkD 10 (hkNQ eu ev f b (fun _ _ => 0)) * K ^ 9 * ((zgD (zgE 9 rows) : Nat) : Rat) = V at *
          rw [e2] at fin
          clear zd mono nd n0 kk e2 e q
          grind
        · grind
    have g0 : 0 < 2 * hR 9 f + 2 * b := by grind
    generalize 2 * hR 9 f + 2 * b = g at *
    generalize hkD 10 (hkNQ eu ev f b (fun _ _ => 0)) = D at *
    generalize hkmx eu ev f b = M at *
    clear fin low zd mono nd n0 kk
    have e1 : (g + g / 9) ^ 10 * (4000000 * M) = (g / 9) * (100000000000000 / 387420489) * (400 * g ^ 9 * M) := by grind
    have e2 : g / 9 * D * 100000000000000 = (g / 9) * (100000000000000 / 387420489) * (387420489 * D) := by grind
    rw [e1, e2]
    have c0 : 0 < (g / 9) * (100000000000000 / 387420489) := by
      refine Rat.mul_pos (by grind) ?_
      grind
    have m := Rat.mul_pos c0 (b := 387420489 * D - 400 * g ^ 9 * M) (by grind)
    grind
