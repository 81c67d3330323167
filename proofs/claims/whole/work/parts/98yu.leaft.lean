/-! the leaf with th, in natural numbers -/
def bnN (m x θ : Nat) : Nat := if m = 0 then 1 else (x + θ) ^ (m - 1) * (x - (m - 1) * θ)
theorem bn_all {x θ m : Nat} (hx : 0 < x) (h : 2 ≤ m → (m - 1) * θ < x) : (0 : Rat) < ((x : Nat) : Rat) + ((θ : Nat) : Rat) ∧ (∀ j, j < m → (0 : Rat) < ((x : Nat) : Rat) - ((j : Nat) : Rat) * ((θ : Nat) : Rat)) ∧ (∀ j, j < m → 0 < bnD ((x : Nat) : Rat) ((θ : Nat) : Rat) j) ∧
    hpR (bnB ((x : Nat) : Rat) ((θ : Nat) : Rat)) m = ((bnN m x θ : Nat) : Rat) ∧ hR m (bnT ((x : Nat) : Rat) ((θ : Nat) : Rat)) * ((x - (m - 1) * θ : Nat) : Rat) = ((m : Nat) : Rat) ∧ 0 < x - (m - 1) * θ := by
  have x0 : (0 : Rat) < ((x : Nat) : Rat) := Rat.natCast_pos.mpr hx
  have t0 : (0 : Rat) ≤ ((θ : Nat) : Rat) := Rat.natCast_nonneg
  have p1 : (0 : Rat) < ((x : Nat) : Rat) + ((θ : Nat) : Rat) := by grind
  have jl : ∀ j, j < m → j * θ < x := fun j hj => by
    by_cases q : 2 ≤ m
    · exact Nat.lt_of_le_of_lt (Nat.mul_le_mul_right θ (by omega)) (h q)
    · have : j = 0 := by omega
      rw [this, Nat.zero_mul]; exact hx
  have p2 : ∀ j, j < m → (0 : Rat) < ((x : Nat) : Rat) - ((j : Nat) : Rat) * ((θ : Nat) : Rat) := fun j hj => by
    have := Rat.natCast_lt_natCast.mpr (jl j hj)
    rw [Rat.natCast_mul] at this
    grind
  have p3 : ∀ j, j < m → 0 < bnD ((x : Nat) : Rat) ((θ : Nat) : Rat) j := fun j hj => by
    have := p2 j hj
    unfold bnD
    grind
  have yp : 0 < x - (m - 1) * θ := by
    by_cases q : 2 ≤ m
    · have := h q; omega
    · have : m - 1 = 0 := by omega
      rw [this, Nat.zero_mul]; exact hx
  refine ⟨p1, p2, p3, ?_, ?_, yp⟩
  · rcases m with _ | m
    · rfl
    · have e := bn_prod (m + 1) p1 p3
      have le : m * θ ≤ x := Nat.le_of_lt (jl m (by omega))
      have e1 : bnD ((x : Nat) : Rat) ((θ : Nat) : Rat) (m + 1) = ((x - m * θ : Nat) : Rat) := by
        have k : (((x - m * θ) + m * θ : Nat) : Rat) = ((x : Nat) : Rat) := by rw [Nat.sub_add_cancel le]
        rw [Rat.natCast_add, Rat.natCast_mul] at k
        unfold bnD
        rw [Rat.natCast_add]
        have : ((1 : Nat) : Rat) = 1 := rfl
        rw [this]
        grind
      have e2 : ((bnN (m + 1) x θ : Nat) : Rat) = (((x : Nat) : Rat) + ((θ : Nat) : Rat)) ^ m * ((x - m * θ : Nat) : Rat) := by
        unfold bnN
        rw [if_neg (by omega)]
        show (((x + θ) ^ m * (x - m * θ) : Nat) : Rat) = _
        rw [Rat.natCast_mul, Rat.natCast_pow, Rat.natCast_add]
      rw [e2]
      rw [e1] at e
      generalize hpR (bnB ((x : Nat) : Rat) ((θ : Nat) : Rat)) (m + 1) = H at *
      generalize ((x - m * θ : Nat) : Rat) = y at *
      generalize ((x : Nat) : Rat) + ((θ : Nat) : Rat) = s at *
      have e3 : s ^ (m + 1) = s ^ m * s := by grind
      rw [e3] at e
      generalize s ^ m = P at *
      have : H = H * s * s⁻¹ := by grind
      rw [this, e]
      grind
  · rcases m with _ | m
    · show (0 : Rat) * _ = ((0 : Nat) : Rat)
      have : ((0 : Nat) : Rat) = 0 := rfl
      rw [this]
      grind
    · have e := bn_sum (m + 1) p1 p2 p3
      have le : m * θ ≤ x := Nat.le_of_lt (jl m (by omega))
      have e1 : bnD ((x : Nat) : Rat) ((θ : Nat) : Rat) (m + 1) = ((x - m * θ : Nat) : Rat) := by
        have k : (((x - m * θ) + m * θ : Nat) : Rat) = ((x : Nat) : Rat) := by rw [Nat.sub_add_cancel le]
        rw [Rat.natCast_add, Rat.natCast_mul] at k
        unfold bnD
        rw [Rat.natCast_add]
        have : ((1 : Nat) : Rat) = 1 := rfl
        rw [this]
        grind
      rw [e1] at e
      exact e
theorem hkmu_le {eu ev : Nat → Nat} {u v k : Nat} : ∀ n, k ≤ n → hkmu eu ev k u v ≤ hkmu eu ev n u v := by
  intro n
  induction n with
  | zero => intro h; have : k = 0 := by omega
            rw [this]; exact Nat.le_refl _
  | succ n ih =>
    intro h
    by_cases e : k = n + 1
    · rw [e]; exact Nat.le_refl _
    · have := ih (by omega)
      show _ ≤ hkmu eu ev n u v + _
      omega
theorem hkmu_two {eu ev : Nat → Nat} {c d : Nat} (hc : c < 10) (hd : d < 10) (hne : c ≠ d) (e1 : eu c = eu d) (e2 : ev c = ev d) : 2 ≤ hkmu eu ev 10 (eu c) (ev c) := by
  have main : ∀ c d, c < d → d < 10 → eu c = eu d → ev c = ev d → 2 ≤ hkmu eu ev 10 (eu d) (ev d) := fun c d hcd hd e1 e2 => by
    have a := hkmu_pos (eu := eu) (ev := ev) d hcd
    rw [e1, e2] at a
    have b := hkmu_s2 (eu := eu) (ev := ev) (k := d)
    have l := hkmu_le (eu := eu) (ev := ev) (u := eu d) (v := ev d) (k := d + 1) 10 (by omega)
    omega
  rcases Nat.lt_or_gt_of_ne hne with g | g
  · rw [e1, e2]; exact main c d g hd e1 e2
  · exact main d c g hc e1.symm e2.symm
def nxTh (m : Nat → Nat → Nat) (f : Nat → Nat) (th : Nat → Nat → Nat) : Nat := nP (fun u => nP (fun v => if u < v then bnN (m u v) (f u + f v) (th u v) else 1) 9) 9
set_option maxHeartbeats 2000000 in
theorem hk_leafT {eu ev f : Nat → Nat} {b K M : Nat} {th : Nat → Nat → Nat} {rows : List (List Nat)} (hor : ∀ c, c < 10 → eu c < ev c ∧ ev c < 9) (hf : ∀ v, v < 9 → 0 < f v) (hK : 0 < K) (hH : zgH 9 rows) (h0 : ∀ v, v < 9 → 0 < zgR rows v)
    (hr : ∀ v, v < 9 → zgR rows v * (f v + b) ≤ K) (hk : ∀ u v, u < v → v < 9 → zgK rows u v * (f u + f v - (hkmu eu ev 10 u v - 1) * th u v) ≤ K * hkmu eu ev 10 u v)
    (hth : ∀ u v, u < v → v < 9 → 2 ≤ hkmu eu ev 10 u v → (hkmu eu ev 10 u v - 1) * th u v < f u + f v ∧ f u + f v + th u v ≤ nS f 9 + b)
    (hM : nmx (hkmu eu ev 10) f b ≤ M + nth (hkmu eu ev 10) th)
    (fin : 400 * (2 * nS f 9 + 2 * b) ^ 9 * M * K ^ 9 < 387420489 * nxTh (hkmu eu ev 10) f th * nP (fun v => f v + b) 9 * zfE 9 rows) : hkCE1 eu ev := by
  have hO : ∀ c, c < 10 → eu c < 9 ∧ ev c < 9 ∧ eu c ≠ ev c := fun c hc => by have := hor c hc; omega
  have bn : ∀ u v, u < v → v < 9 → _ := fun u v huv hv => bn_all (x := f u + f v) (θ := th u v) (m := hkmu eu ev 10 u v) (by have := hf v hv; omega) (fun q => (hth u v huv hv q).1)
  have xq : ∀ u v, ((f u + f v : Nat) : Rat) = ((f u : Nat) : Rat) + ((f v : Nat) : Rat) := fun u v => Rat.natCast_add _ _
  generalize hF : (fun v => ((f v : Nat) : Rat)) = F
  generalize hT : (fun u v => ((th u v : Nat) : Rat)) = TH
  have Fv : ∀ v, F v = ((f v : Nat) : Rat) := fun v => by rw [← hF]
  have Tv : ∀ u v, TH u v = ((th u v : Nat) : Rat) := fun u v => by rw [← hT]
  have Fp : ∀ v, v < 9 → 0 < F v := fun v hv => by rw [Fv]; exact Rat.natCast_pos.mpr (hf v hv)
  have bq : (0 : Rat) ≤ ((b : Nat) : Rat) := Rat.natCast_nonneg
  have ha : ∀ v, v < 9 → 0 < F v + ((b : Nat) : Rat) := fun v hv => by have := Fp v hv; grind
  have jq : ∀ c, c < 10 → hkj eu ev c = ((hkmu eu ev c (eu c) (ev c) : Nat) : Rat) := fun c hc => hkj_mu (fun d hd => (hor d (by omega)).1)
  have jm : ∀ c, c < 10 → hkmu eu ev c (eu c) (ev c) < hkmu eu ev 10 (eu c) (ev c) := fun c hc => by
    have b := hkmu_s2 (eu := eu) (ev := ev) (k := c)
    have l := hkmu_le (eu := eu) (ev := ev) (u := eu c) (v := ev c) (k := c + 1) 10 (by omega)
    omega
  have xc : ∀ c, hkx eu ev F c = ((f (eu c) + f (ev c) : Nat) : Rat) := fun c => by unfold hkx; rw [Fv, Fv, xq]
  have tc : ∀ c, hkth eu ev TH c = ((th (eu c) (ev c) : Nat) : Rat) := fun c => by unfold hkth; rw [Tv]
  have dc : ∀ c, c < 10 → hkdn eu ev F TH c = bnD ((f (eu c) + f (ev c) : Nat) : Rat) ((th (eu c) (ev c) : Nat) : Rat) (hkmu eu ev c (eu c) (ev c)) := fun c hc => by
    unfold hkdn bnD
    rw [xc, tc, jq c hc]
    grind
  have bc : ∀ c, c < 10 → hkbe eu ev F TH c = bnB ((f (eu c) + f (ev c) : Nat) : Rat) ((th (eu c) (ev c) : Nat) : Rat) (hkmu eu ev c (eu c) (ev c)) := fun c hc => by
    unfold hkbe bnB
    rw [dc c hc, xc, tc, jq c hc]
  have ttc : ∀ c, c < 10 → hktt eu ev F TH c = bnT ((f (eu c) + f (ev c) : Nat) : Rat) ((th (eu c) (ev c) : Nat) : Rat) (hkmu eu ev c (eu c) (ev c)) := fun c hc => by
    unfold hktt bnT hksk
    rw [bc c hc, dc c hc, xc, tc]
  have ok : ∀ c, c < 10 → hkok eu ev F TH c := fun c hc => by
    obtain ⟨o1, o2⟩ := hor c hc
    obtain ⟨a1, a2, a3, _⟩ := bn (eu c) (ev c) o1 o2
    refine ⟨?_, ?_, ?_⟩
    · rw [xc, tc]; exact a1
    · rw [xc, tc, jq c hc]; exact a2 _ (jm c hc)
    · rw [dc c hc]; exact a3 _ (jm c hc)
  -- the product
  have prod : hpR (hkbe eu ev F TH) 10 = ((nxTh (hkmu eu ev 10) f th : Nat) : Rat) := by
    have e1 : hpR (hkbe eu ev F TH) 10 = hpR (fun c => (fun (u v j : Nat) => bnB ((f u + f v : Nat) : Rat) ((th u v : Nat) : Rat) j) (eu c) (ev c) (hkmu eu ev c (eu c) (ev c))) 10 := hpR_congr (fun c hc => bc c hc)
    rw [e1.trans (hk_prod2 (G := fun (u v j : Nat) => bnB ((f u + f v : Nat) : Rat) ((th u v : Nat) : Rat) j) 10 hor)]
    unfold nxTh
    rw [nP_q]
    refine hpR_congr (fun u _ => ?_)
    rw [nP_q]
    refine hpR_congr (fun v hv => ?_)
    by_cases q : u < v
    · rw [if_pos q, if_pos q]
      exact (bn u v q hv).2.2.2.1
    · rw [if_neg q, if_neg q]; rfl
  have Kq : (0 : Rat) < ((K : Nat) : Rat) := Rat.natCast_pos.mpr hK
  have iK := rdiv1 Kq
  -- the rows against the nodes
  have rowsle : ∀ z, hkQ 9 (fun i j => 1 / ((K : Nat) : Rat) * zgL 9 rows i j) z ≤ hkQ 9 (hkNt eu ev F ((b : Nat) : Rat) (hktt eu ev F TH) 10) z := fun z => by
    have q1 : 2 * hkQ 9 (zgL 9 rows) z = 2 * hR 9 (fun u => ((zgR rows u : Nat) : Rat) * (z u * z u)) + hR 9 (fun u => hR 9 (fun v => if v = u then 0 else ((zgK rows u v : Nat) : Rat) * ((z u - z v) * (z u - z v)))) := hkLp_Q (fun u v => by rw [zgK_sy]) z
    rw [hR_tri (F := fun u v => ((zgK rows u v : Nat) : Rat) * ((z u - z v) * (z u - z v))) (fun u v => by rw [zgK_sy]; grind)] at q1
    have wh : ∀ c, c < 10 → hR 9 (fun v => hksv eu ev v c * z v) = z (ev c) - z (eu c) := fun c hc => by
      obtain ⟨a1, a2, a3⟩ := hO c hc
      rw [hR_two (c := eu c) (d := ev c) a1 a2 a3 (fun v _ n1 n2 => by
        unfold hksv iv
        rw [if_neg (Ne.symm n1), if_neg (Ne.symm n2)]
        have : (((0 - 0 : Int)) : Rat) = 0 := rfl
        rw [this]; grind)]
      unfold hksv iv
      rw [if_pos rfl, if_neg (Ne.symm a3), if_pos rfl, if_neg a3]
      have e1 : (((0 - 1 : Int)) : Rat) = -1 := rfl
      have e2 : (((1 - 0 : Int)) : Rat) = 1 := rfl
      rw [e1, e2]
      grind
    have q3 : hR 10 (fun c => hktt eu ev F TH c * (hR 9 (fun v => hksv eu ev v c * z v) * hR 9 (fun v => hksv eu ev v c * z v))) = hR 9 (fun u => hR 9 (fun v => if u < v then hR (hkmu eu ev 10 u v) (fun j => bnT ((f u + f v : Nat) : Rat) ((th u v : Nat) : Rat) j) * ((z u - z v) * (z u - z v)) else 0)) := by
      have e1 : hR 10 (fun c => hktt eu ev F TH c * (hR 9 (fun v => hksv eu ev v c * z v) * hR 9 (fun v => hksv eu ev v c * z v))) = hR 10 (fun c => (fun (u v j : Nat) => bnT ((f u + f v : Nat) : Rat) ((th u v : Nat) : Rat) j) (eu c) (ev c) (hkmu eu ev c (eu c) (ev c)) * (fun u v => (z u - z v) * (z u - z v)) (eu c) (ev c)) := hR_congr (fun c hc => by
        show _ = bnT ((f (eu c) + f (ev c) : Nat) : Rat) ((th (eu c) (ev c) : Nat) : Rat) (hkmu eu ev c (eu c) (ev c)) * ((z (eu c) - z (ev c)) * (z (eu c) - z (ev c)))
        rw [wh c hc, ttc c hc]
        grind)
      exact e1.trans (hk_sum2 (S := fun (u v j : Nat) => bnT ((f u + f v : Nat) : Rat) ((th u v : Nat) : Rat) j) (T := fun u v => (z u - z v) * (z u - z v)) 10 hor)
    rw [hkQ_sc, hkNt_val, q3]
    have r1 : hR 9 (fun u => ((zgR rows u : Nat) : Rat) * (z u * z u)) ≤ ((K : Nat) : Rat) * hR 9 (fun v => 1 / (F v + ((b : Nat) : Rat)) * (z v * z v)) := by
      rw [← hR_mul]
      refine hR_le (fun v hv => ?_)
      have a := ha v hv
      have hrq := Rat.natCast_le_natCast.mpr (hr v hv)
      rw [Rat.natCast_mul, Rat.natCast_add, ← Fv] at hrq
      have c := Rat.mul_nonneg (a := ((K : Nat) : Rat) - ((zgR rows v : Nat) : Rat) * (F v + ((b : Nat) : Rat))) (b := 1 / (F v + ((b : Nat) : Rat)) * (z v * z v)) (by grind) (Rat.mul_nonneg (by have := rdiv1 a; grind) (rsq _))
      have d : ((zgR rows v : Nat) : Rat) * (F v + ((b : Nat) : Rat)) * (1 / (F v + ((b : Nat) : Rat)) * (z v * z v)) = ((zgR rows v : Nat) : Rat) * (z v * z v) := by
        generalize F v + ((b : Nat) : Rat) = x at *
        have : x ≠ 0 := by grind
        clear c hrq
        grind
      generalize 1 / (F v + ((b : Nat) : Rat)) * (z v * z v) = Y at *
      grind
    have r2 : hR 9 (fun u => hR 9 (fun v => if u < v then ((zgK rows u v : Nat) : Rat) * ((z u - z v) * (z u - z v)) else 0)) ≤ ((K : Nat) : Rat) * hR 9 (fun u => hR 9 (fun v => if u < v then hR (hkmu eu ev 10 u v) (fun j => bnT ((f u + f v : Nat) : Rat) ((th u v : Nat) : Rat) j) * ((z u - z v) * (z u - z v)) else 0)) := by
      rw [← hR_mul]
      refine hR_le (fun u hu => ?_)
      rw [← hR_mul]
      refine hR_le (fun v hv => ?_)
      by_cases q : u < v
      · rw [if_pos q, if_pos q]
        obtain ⟨_, _, _, _, b5, b6⟩ := bn u v q hv
        have y0 : (0 : Rat) < ((f u + f v - (hkmu eu ev 10 u v - 1) * th u v : Nat) : Rat) := Rat.natCast_pos.mpr b6
        have hkq := Rat.natCast_le_natCast.mpr (hk u v q hv)
        rw [Rat.natCast_mul, Rat.natCast_mul, ← b5] at hkq
        have b5' : hR (hkmu eu ev 10 u v) (fun j => bnT ((f u + f v : Nat) : Rat) ((th u v : Nat) : Rat) j) = hR (hkmu eu ev 10 u v) (bnT ((f u + f v : Nat) : Rat) ((th u v : Nat) : Rat)) := rfl
        rw [b5']
        generalize hR (hkmu eu ev 10 u v) (bnT ((f u + f v : Nat) : Rat) ((th u v : Nat) : Rat)) = H at *
        generalize ((f u + f v - (hkmu eu ev 10 u v - 1) * th u v : Nat) : Rat) = y at *
        generalize ((zgK rows u v : Nat) : Rat) = kk at *
        have le : kk ≤ ((K : Nat) : Rat) * H := rmulc y0 (by grind)
        have := Rat.mul_nonneg (a := ((K : Nat) : Rat) * H - kk) (by grind) (rsq (z u - z v))
        grind
      · rw [if_neg q, if_neg q]; grind
    generalize hkQ 9 (zgL 9 rows) z = L at *
    generalize hR 9 (fun u => ((zgR rows u : Nat) : Rat) * (z u * z u)) = A at *
    generalize hR 9 (fun u => hR 9 (fun v => if u < v then ((zgK rows u v : Nat) : Rat) * ((z u - z v) * (z u - z v)) else 0)) = B at *
    generalize hR 9 (fun v => 1 / (F v + ((b : Nat) : Rat)) * (z v * z v)) = C at *
    generalize hR 9 (fun u => hR 9 (fun v => if u < v then hR (hkmu eu ev 10 u v) (fun j => bnT ((f u + f v : Nat) : Rat) ((th u v : Nat) : Rat) j) * ((z u - z v) * (z u - z v)) else 0)) = D at *
    generalize ((K : Nat) : Rat) = k at *
    have s : L ≤ k * (C + D) := by grind
    have m := Rat.mul_nonneg (a := 1 / k) (b := k * (C + D) - L) (by grind) (by grind)
    have e : 1 / k * (k * (C + D)) = C + D := by
      have : k ≠ 0 := by grind
      clear m s r1 r2 q1 q3
      grind
    grind
  have PL : hkP 9 (fun i j => 1 / ((K : Nat) : Rat) * zgL 9 rows i j) := hkP_of (fun i j => by show 1 / ((K : Nat) : Rat) * zgL 9 rows i j = 1 / ((K : Nat) : Rat) * zgL 9 rows j i; rw [zgL_sy 9 rows i j]) (fun z hz => by
    rw [hkQ_sc]
    exact Rat.mul_pos iK (hkQ_pd (zgL_sy 9 rows) (zgL_P h0) z hz))
  have mono := (hkD_mono (fun i j => by show 1 / ((K : Nat) : Rat) * zgL 9 rows i j = 1 / ((K : Nat) : Rat) * zgL 9 rows j i; rw [zgL_sy 9 rows i j]) (hkNt_sy eu ev F ((b : Nat) : Rat) (hktt eu ev F TH) 10) PL rowsle).2
  have K0 : 1 / ((K : Nat) : Rat) ≠ 0 := by grind
  rw [hkD_sc K0] at mono
  have nd := hk_NDt (eu := eu) (ev := ev) (f := F) (b := ((b : Nat) : Rat)) (th := TH) ha 10 ok
  have n0 : hkD 9 (hkNt eu ev F ((b : Nat) : Rat) (hktt eu ev F TH) 0) * hpR (fun v => F v + ((b : Nat) : Rat)) 9 = 1 := by
    rw [hkD_dg (fun u v hne => by show (if u = v then 1 / (F u + ((b : Nat) : Rat)) else 0) + 0 = 0; rw [if_neg hne]; grind)]
    have e : (fun u => hkNt eu ev F ((b : Nat) : Rat) (hktt eu ev F TH) 0 u u) = fun u => 1 / (F u + ((b : Nat) : Rat)) := funext fun u => by
      show (if u = u then 1 / (F u + ((b : Nat) : Rat)) else 0) + 0 = _
      rw [if_pos rfl]; grind
    rw [e]
    exact hpR_inv (f := fun v => F v + ((b : Nat) : Rat)) (fun i hi => by have := ha i hi; grind)
  have zf := zfE_D hH h0
  have A0 := hpR_nn (f := fun v => F v + ((b : Nat) : Rat)) (n := 9) ha
  have X0 := hpR_nn (f := hkbe eu ev F TH) (n := 10) (fun c hc => hkbe_pos (ok c hc))
  have Kp : 0 < ((K : Nat) : Rat) ^ 9 := by
    have : ∀ n : Nat, 0 < ((K : Nat) : Rat) ^ n := fun n => by
      induction n with
      | zero => have : ((K : Nat) : Rat) ^ 0 = 1 := by grind
                rw [this]; decide
      | succ n ih =>
        have : ((K : Nat) : Rat) ^ (n + 1) = ((K : Nat) : Rat) * ((K : Nat) : Rat) ^ n := by grind
        rw [this]; exact Rat.mul_pos Kq ih
    exact this 9
  have kk : ((K : Nat) : Rat) ^ 9 * (1 / ((K : Nat) : Rat)) ^ 9 = 1 := by
    have : ((K : Nat) : Rat) ^ 9 * (1 / ((K : Nat) : Rat)) ^ 9 = (((K : Nat) : Rat) * (1 / ((K : Nat) : Rat))) ^ 9 := by grind
    rw [this]
    have : ((K : Nat) : Rat) * (1 / ((K : Nat) : Rat)) = 1 := by grind
    rw [this]
    grind
  rw [prod] at nd X0
  have low : ((nxTh (hkmu eu ev 10) f th : Nat) : Rat) * hpR (fun v => F v + ((b : Nat) : Rat)) 9 * ((zfE 9 rows : Nat) : Rat) ≤ hkD 10 (hkNQ eu ev F ((b : Nat) : Rat) TH) * ((K : Nat) : Rat) ^ 9 := by
    generalize hkD 9 (hkNt eu ev F ((b : Nat) : Rat) (hktt eu ev F TH) 0) = N0 at *
    generalize hpR (fun v => F v + ((b : Nat) : Rat)) 9 = A at *
    generalize ((nxTh (hkmu eu ev 10) f th : Nat) : Rat) = X at *
    generalize hkD 10 (hkNQ eu ev F ((b : Nat) : Rat) TH) = D at *
    generalize hkD 9 (hkNt eu ev F ((b : Nat) : Rat) (hktt eu ev F TH) 10) = N1 at *
    generalize hkD 9 (zgL 9 rows) = L at *
    generalize ((zfE 9 rows : Nat) : Rat) = Z at *
    generalize (1 / ((K : Nat) : Rat)) ^ 9 = R at *
    generalize ((K : Nat) : Rat) ^ 9 = P at *
    clear fin rowsle PL bc ttc ok dc prod
    have s1 := Rat.mul_nonneg (a := A) (b := D * N0 - X * N1) (by grind) (by grind)
    have s2 := Rat.mul_nonneg (a := A * X) (b := N1 - R * L) (Rat.mul_nonneg (by grind) (by grind)) (by grind)
    have s3 : A * X * (R * L) ≤ D := by
      have : A * (D * N0) = D := by
        have : A * (D * N0) = D * (N0 * A) := by grind
        rw [this, n0]; grind
      grind
    have s4 := Rat.mul_nonneg (a := P) (b := D - A * X * (R * L)) (by grind) (by grind)
    have s5 : P * (A * X * (R * L)) = X * A * L := by
      have : P * (A * X * (R * L)) = (P * R) * (X * A * L) := by grind
      rw [this, kk]; grind
    have s6 := Rat.mul_nonneg (a := X * A) (b := L - Z) (Rat.mul_nonneg (by grind) (by grind)) (by grind)
    grind
  have par : ∀ c d, c < 10 → d < 10 → c ≠ d → eu c = eu d → ev c = ev d → (hkmu eu ev 10 (eu c) (ev c) - 1) * th (eu c) (ev c) < f (eu c) + f (ev c) ∧ f (eu c) + f (ev c) + th (eu c) (ev c) ≤ nS f 9 + b ∧ 2 ≤ hkmu eu ev 10 (eu c) (ev c) := fun c d hc hd hne e1 e2 => by
    have t := hkmu_two hc hd hne e1 e2
    have := hth (eu c) (ev c) (hor c hc).1 (hor c hc).2 t
    exact ⟨this.1, this.2, t⟩
  have Sq : hR 9 F = ((nS f 9 : Nat) : Rat) := by rw [nS_q, ← hF]
  refine ⟨hkNQ eu ev F ((b : Nat) : Rat) TH, 2 * hR 9 F + 2 * ((b : Nat) : Rat), (2 * hR 9 F + 2 * ((b : Nat) : Rat)) / 9, 4000000 * ((M : Nat) : Rat), hkNQ_sy eu ev F _ _, hkNQ_Pt ha ok, ?_, fun z hz => hkNQ_rg hO (fun v hv => by have := Fp v hv; grind) bq (fun c d hc hd hcd e1 e2 => ?_) hz, fun x hx2 => ?_, ?_⟩
  · have := hR_lea (n := 9) (f := F) (fun i hi => by have := Fp i hi; grind) (i := 0) (by omega)
    have := Fp 0 (by omega)
    grind
  · have := Rat.natCast_le_natCast.mpr (par c d hc hd hcd e1 e2).2.1
    rw [Rat.natCast_add, Rat.natCast_add, Rat.natCast_add] at this
    rw [Fv, Fv, Tv, Sq]
    exact this
  · have bx := hkNQ_boxt (f := F) (b := ((b : Nat) : Rat)) (th := TH) hO (fun v hv => by have := Fp v hv; grind) bq (fun c d hc hd hcd e1 e2 => by
      obtain ⟨p1, _, p3⟩ := par c d hc hd hcd e1 e2
      have le : th (eu c) (ev c) ≤ f (eu c) + f (ev c) := by
        have : 1 * th (eu c) (ev c) ≤ (hkmu eu ev 10 (eu c) (ev c) - 1) * th (eu c) (ev c) := Nat.mul_le_mul_right _ (by omega)
        omega
      have := Rat.natCast_le_natCast.mpr le
      rw [Rat.natCast_add] at this
      rw [Fv, Fv, Tv]
      exact this) hx2
    have es : hR 10 (fun c => hR 10 (fun d => hkee eu ev TH c d)) = -((nth (hkmu eu ev 10) th : Nat) : Rat) := by rw [← hT]; exact hkee_s2 hor
    have e1 : hkmx eu ev F ((b : Nat) : Rat) = ((nmx (hkmu eu ev 10) f b : Nat) : Rat) := by
      unfold hkmx nmx
      rw [nS_q]
      exact hR_congr (fun v hv => by rw [ndg_q hO hv, Rat.natCast_add, Rat.natCast_mul, Rat.natCast_mul, Rat.natCast_mul, Rat.natCast_add, Fv])
    rw [es, e1] at bx
    have := Rat.natCast_le_natCast.mpr hM
    rw [Rat.natCast_add] at this
    grind
  · have NN : (((10000000 : Nat) : Int) : Rat) * (((10000000 : Nat) : Int) : Rat) = 100000000000000 := by
      have e7 : (((10000000 : Nat) : Int) : Rat) = 10000000 := rfl
      rw [e7]
      grind
    rw [NN]
    have finq := Rat.natCast_lt_natCast.mpr fin
    have e3 : hpR (fun v => F v + ((b : Nat) : Rat)) 9 = ((nP (fun v => f v + b) 9 : Nat) : Rat) := by
      rw [nP_q]
      exact hpR_congr (fun v _ => by rw [Rat.natCast_add, Fv])
    have e4 : 2 * hR 9 F + 2 * ((b : Nat) : Rat) = ((2 * nS f 9 + 2 * b : Nat) : Rat) := by
      rw [Sq, Rat.natCast_add, Rat.natCast_mul, Rat.natCast_mul]
      rfl
    have g0 : 0 < 2 * hR 9 F + 2 * ((b : Nat) : Rat) := by
      have := hR_lea (n := 9) (f := F) (fun i hi => by have := Fp i hi; grind) (i := 0) (by omega)
      have := Fp 0 (by omega)
      grind
    have finq2 : 400 * (2 * hR 9 F + 2 * ((b : Nat) : Rat)) ^ 9 * ((M : Nat) : Rat) * ((K : Nat) : Rat) ^ 9 < 387420489 * ((nxTh (hkmu eu ev 10) f th : Nat) : Rat) * hpR (fun v => F v + ((b : Nat) : Rat)) 9 * ((zfE 9 rows : Nat) : Rat) := by
      rw [e3, e4]
      simp only [Rat.natCast_mul, Rat.natCast_pow] at finq ⊢
      exact finq
    have key : 400 * (2 * hR 9 F + 2 * ((b : Nat) : Rat)) ^ 9 * ((M : Nat) : Rat) < 387420489 * hkD 10 (hkNQ eu ev F ((b : Nat) : Rat) TH) := by
      generalize 400 * (2 * hR 9 F + 2 * ((b : Nat) : Rat)) ^ 9 * ((M : Nat) : Rat) = U at *
      generalize hkD 10 (hkNQ eu ev F ((b : Nat) : Rat) TH) = D at *
      generalize ((nxTh (hkmu eu ev 10) f th : Nat) : Rat) = X at *
      generalize hpR (fun v => F v + ((b : Nat) : Rat)) 9 = A at *
      generalize ((zfE 9 rows : Nat) : Rat) = Z at *
      generalize ((K : Nat) : Rat) ^ 9 = P at *
      clear fin finq mono nd n0 kk rowsle PL bc ttc ok dc prod zf e3 e4
      have s : U * P < 387420489 * D * P := by
        have : 387420489 * X * A * Z = 387420489 * (X * A * Z) := by grind
        rw [this] at finq2
        grind
      rcases Rat.le_total (a := 387420489 * D) (b := U) with q | q
      · exfalso
        have := Rat.mul_nonneg (a := U - 387420489 * D) (b := P) (by grind) (by grind)
        grind
      · rcases Classical.em (U = 387420489 * D) with e | e
        · rw [e] at s; grind
        · grind
    generalize 2 * hR 9 F + 2 * ((b : Nat) : Rat) = g at *
    generalize hkD 10 (hkNQ eu ev F ((b : Nat) : Rat) TH) = D at *
    generalize ((M : Nat) : Rat) = M' at *
    clear fin finq finq2 low mono nd n0 kk rowsle PL bc ttc ok dc prod zf
    have e1 : (g + g / 9) ^ 10 * (4000000 * M') = (g / 9) * (100000000000000 / 387420489) * (400 * g ^ 9 * M') := by grind
    have e2 : g / 9 * D * 100000000000000 = (g / 9) * (100000000000000 / 387420489) * (387420489 * D) := by grind
    rw [e1, e2]
    have c0 : 0 < (g / 9) * (100000000000000 / 387420489) := by
      refine Rat.mul_pos (by grind) ?_
      grind
    have m := Rat.mul_pos c0 (b := 387420489 * D - 400 * g ^ 9 * M') (by grind)
    grind
