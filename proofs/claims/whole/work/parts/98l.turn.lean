/-! the reference's roomOf() and turn() -/
/-- not more than an edge leaves -/
def rmL (S : ZS) (s x : Nat → Int) (nc nr : Nat) (o R : Int) : Prop := (∀ c, c < nc → o = (c : Int) + 1 → R ≤ hic S c - x c) ∧ (∀ c, c < nc → o = -(c : Int) - 1 → R ≤ x c - loc S c) ∧ (∀ r, r < nr → o = -100 - (r : Int) → R ≤ s r * ev (gg S s) (bR S s) nc x r)
theorem rmL.le {S : ZS} {s x : Nat → Int} {nc nr : Nat} {o R V : Int} (h : rmL S s x nc nr o R) (hV : V ≤ R) : rmL S s x nc nr o V := ⟨fun c hc e => by have := h.1 c hc e; omega, fun c hc e => by have := h.2.1 c hc e; omega, fun r hr e => by have := h.2.2 r hr e; omega⟩
theorem x7_roomOf {nc nr e t h : Nat} {w : Int} {s : Nat → Int} {S T : ZS} {Q : Int64 → ZS → Prop} (hC : zC S nc nr) (hfl : flw S nc nr s) (hT : rSg S T s nr) (hb : inB (loc S) (hic S) nc (bsT T)) (he : e < 60) (hk : eK S s (bsT T) nc nr nc nr t h w (oR T e))
    (q : ∀ v : Int64, 1 ≤ v.toInt → v.toInt ≤ 1000000000000 → rmL S s (bsT T) nc nr (oR T e) v.toInt → Q v T) : X7_roomOf (nI e) T Q := by
  have h1 := hC.1
  have h2 := hC.2.1
  have c1 : (1 : Int32).toInt = 1 := by decide
  have c0 : (0 : Int32).toInt = 0 := by decide
  have c100 : (100 : Int32).toInt = 100 := by decide
  have cm100 : (-100 : Int32).toInt = -100 := by decide
  have cF : (1000000000000 : Int64).toInt = 1000000000000 := by decide
  have bb : ∀ c, c < nc → -1000 ≤ bsT T c ∧ bsT T c ≤ 1000 ∧ -1000 ≤ loc S c ∧ hic S c ≤ 1000 := fun c hc => by
    have := hb c hc
    have z := (hC.2.2.2.2.2.2.1 c hc).2.2.2.1
    unfold zok at z
    unfold loc hic at *
    omega
  unfold X7_roomOf X7_roomOf_b90
  refine ⟨vp_in_nI (by omega) (by omega), fun x ex => ?_⟩
  rw [nI_clamp (by omega)] at ex
  have hx : x.toInt = oR T e := by rw [ex]; rfl
  generalize oR T e = o at *
  have hr : -110 < o ∧ o < 110 := by
    rcases hk with ⟨c, a1, a2, a3, a4, a5, a6⟩ | ⟨c, a1, a2, a3, a4, a5, a6⟩ | ⟨r', a1, a2, a3, a4, a5, a6⟩ | ⟨r', a1, a2, a3, a4, a5, a6, a7⟩ <;> omega
  have en : (-x).toInt = -x.toInt := i_neg (by omega)
  rw [i_lt, i_lt, i_le, c100, cm100, c0, hx]
  refine ⟨fun g => ⟨fun g2 => ⟨fun g3 => ?_, fun g3 => ?_⟩, fun g2 => ?_⟩, fun g => ?_⟩
  · rcases hk with ⟨c, a1, a2, a3, a4, a5, a6⟩ | ⟨c, a1, a2, a3, a4, a5, a6⟩ | ⟨r', a1, a2, a3, a4, a5, a6⟩ | ⟨r', a1, a2, a3, a4, a5, a6, a7⟩
    · omega
    · have hv := v_of (x := (-x) - (1 : Int32)) (n := 10) (k := c) (by rw [i_sub (by rw [en, c1]; omega) (by rw [en, c1]; omega), en, c1]; omega) (by omega) (by omega)
      refine ⟨hv.1, hv.1, ?_⟩
      have h62 : (T.1 62 c).toInt = loc S c := by rw [hT.1.1 62 rfl, (hC.2.2.2.2.2.2.1 c a1).1]; rfl
      have h68 : (T.1 68 c).toInt = bsT T c := rfl
      have b := bb c a1
      rw [hv.2, nI_clamp (by omega)]
      have ev : (Int32.toInt64 (T.1 68 c - T.1 62 c)).toInt = bsT T c - loc S c := by rw [l_i, i_sub (by rw [h62, h68]; omega) (by rw [h62, h68]; omega), h62, h68]
      refine q _ (by rw [ev]; omega) (by rw [ev]; omega) ?_
      rw [ev]
      refine ⟨fun c' hc' e' => by omega, fun c' hc' e' => ?_, fun r hr' e' => by omega⟩
      have : c' = c := by omega
      rw [this]; exact Int.le_refl _
    · omega
    · omega
  · rcases hk with ⟨c, a1, a2, a3, a4, a5, a6⟩ | ⟨c, a1, a2, a3, a4, a5, a6⟩ | ⟨r', a1, a2, a3, a4, a5, a6⟩ | ⟨r', a1, a2, a3, a4, a5, a6, a7⟩
    · have hv := v_of (x := x - (1 : Int32)) (n := 10) (k := c) (by rw [i_sub (by rw [c1]; omega) (by rw [c1]; omega), c1]; omega) (by omega) (by omega)
      refine ⟨hv.1, hv.1, ?_⟩
      have h63 : (T.1 63 c).toInt = hic S c := by rw [hT.1.1 63 rfl, (hC.2.2.2.2.2.2.1 c a1).2.1]; rfl
      have h68 : (T.1 68 c).toInt = bsT T c := rfl
      have b := bb c a1
      rw [hv.2, nI_clamp (by omega)]
      have ev : (Int32.toInt64 (T.1 63 c - T.1 68 c)).toInt = hic S c - bsT T c := by rw [l_i, i_sub (by rw [h63, h68]; omega) (by rw [h63, h68]; omega), h63, h68]
      refine q _ (by rw [ev]; omega) (by rw [ev]; omega) ?_
      rw [ev]
      refine ⟨fun c' hc' e' => ?_, fun c' hc' e' => by omega, fun r hr' e' => by omega⟩
      have : c' = c := by omega
      rw [this]; exact Int.le_refl _
    · omega
    · omega
    · omega
  · rcases hk with ⟨c, a1, a2, a3, a4, a5, a6⟩ | ⟨c, a1, a2, a3, a4, a5, a6⟩ | ⟨r', a1, a2, a3, a4, a5, a6⟩ | ⟨r', a1, a2, a3, a4, a5, a6, a7⟩
    · omega
    · omega
    · omega
    · have hv := v_of (x := (-x) - (100 : Int32)) (n := 8) (k := r') (by rw [i_sub (by rw [en, c100]; omega) (by rw [en, c100]; omega), en, c100]; omega) (by omega) (by omega)
      refine ⟨hv.1, ?_⟩
      rw [hv.2]
      refine x7_sumI hC hfl hT a1 (fun c hc => ⟨(bb c hc).1, (bb c hc).2.1⟩) (fun v hv2 => ?_)
      have se := s_ev (S := S) (nc := nc) (x := bsT T) hfl.2.1 a1
      have h66 : (T.1 66 r').toInt = (S.1 12 r').toInt := by rw [hT.1.1 66 rfl, (hC.2.2.2.2.2.2.2.1 r' a1).2.1]
      have bd := ev_bd hC hfl a1 hb
      have bR1 := (hC.2.2.2.2.2.2.2.1 r' a1).2.2.2
      unfold zlim at bR1
      have e1 : s r' * ev (gg S s) (bR S s) nc (bsT T) r' ≤ 110000 := by rcases hfl.2.1 r' a1 with g | g <;> rw [g] <;> omega
      rw [nI_clamp (by omega)]
      have ev2 : (Int32.toInt64 (T.1 66 r') - v).toInt = s r' * ev (gg S s) (bR S s) nc (bsT T) r' := by
        have : (Int32.toInt64 (T.1 66 r') - v).toInt = (Int32.toInt64 (T.1 66 r')).toInt - v.toInt := by
          rw [Int64.toInt_sub]
          refine l_bm ?_ ?_ <;> rw [l_i, h66, hv2] <;> omega
        rw [this, l_i, h66, hv2, se]
      refine q _ (by rw [ev2]; omega) (by rw [ev2]; omega) ?_
      rw [ev2]
      refine ⟨fun c' hc' e' => by omega, fun c' hc' e' => by omega, fun r hr' e' => ?_⟩
      have : r = r' := by omega
      rw [this]; exact Int.le_refl _
  · rcases hk with ⟨c, a1, a2, a3, a4, a5, a6⟩ | ⟨c, a1, a2, a3, a4, a5, a6⟩ | ⟨r', a1, a2, a3, a4, a5, a6⟩ | ⟨r', a1, a2, a3, a4, a5, a6, a7⟩
    · omega
    · omega
    · refine q _ (by rw [cF]; omega) (by rw [cF]; omega) ⟨fun c' hc' e' => by omega, fun c' hc' e' => by omega, fun r hr' e' => by omega⟩
    · omega
theorem uc_bd (o : Int) (c : Nat) : -1 ≤ uc o c ∧ uc o c ≤ 1 := by unfold uc; split <;> (try split) <;> omega
/-- one turn of a ring whose cost is below 0 -/
def rgO (S : ZS) (s : Nat → Int) (nc nr : Nat) (x y : Nat → Int) : Prop := ∃ (P : Nat) (M : Nat → Nat) (w o : Nat → Int) (R : Int), 1 ≤ R ∧ (∀ t, t < P → eK S s x nc nr nc nr (M (t + 1)) (M t) (w t) (o t)) ∧ M P = M 0 ∧ (∀ p q, p < q → q < P → M p ≠ M q) ∧ sI w P < 0 ∧ ∀ c, c < nc → y c = trn x R o P c
set_option maxHeartbeats 2000000 in
theorem x7_turn {nc nr E e P : Nat} {N par : Nat → Nat} {s : Nat → Int} {S T : ZS} {Q : ZS → Prop} (hC : zC S nc nr) (hfl : flw S nc nr s) (hT : rSg S T s nr) (hx : ptS S s nc nr (bsT T)) (hE60 : E ≤ 60)
    (hEK : ∀ e, e < E → T.1 75 e = nI (tlR T e) ∧ T.1 76 e = nI (hdR T e) ∧ eK S s (bsT T) nc nr nc nr (tlR T e) (hdR T e) (wR T e) (oR T e)) (he : e < E) (n0 : N 0 = hdR T e)
    (hN : ∀ j, N j < nr + 1 ∧ par (N j) < E ∧ hdR T (par (N j)) = N j ∧ N (j + 1) = tlR T (par (N j))) (h80 : ∀ v, v < nr + 1 → par v < E → T.1 80 v = nI (par v))
    (p1 : 1 ≤ P) (p2 : P ≤ nr + 1) (p3 : N (nr + 1 + 1 + P) = N (nr + 1 + 1)) (p4 : ∀ p q, p < q → q < P → N (nr + 1 + 1 + p) ≠ N (nr + 1 + 1 + q)) (p5 : sI (fun t => wR T (par (N (nr + 1 + 1 + t)))) P < 0)
    (q : ∀ U, (∀ n, n ≠ 68 → U.1 n = T.1 n) → U.2 = T.2 → ptS S s nc nr (bsT U) → valI (cst S) (bsT U) nc + 1 ≤ valI (cst S) (bsT T) nc → rgO S s nc nr (bsT T) (bsT U) → Q U) : X7_turn (nI e) T Q := by
  have h1 := hC.1
  have h2 := hC.2.1
  have c1 : (1 : Int32).toInt = 1 := by decide
  have c0 : (0 : Int32).toInt = 0 := by decide
  have c100 : (100 : Int32).toInt = 100 := by decide
  have cm100 : (-100 : Int32).toInt = -100 := by decide
  have cF : (1000000000000 : Int64).toInt = 1000000000000 := by decide
  have bb : ∀ c, c < nc → -1000 ≤ bsT T c ∧ bsT T c ≤ 1000 ∧ -1000 ≤ loc S c ∧ hic S c ≤ 1000 := fun c hc => by
    have := hx.1 c hc
    have z := (hC.2.2.2.2.2.2.1 c hc).2.2.2.1
    unfold zok at z
    unfold loc hic at *
    omega
  have v9 : ∀ j, vp_in (nI (N j)) 9 := fun j => vp_in_nI (by have := (hN j).1; omega) (by omega)
  -- a step back
  have b80 : ∀ j, T.1 80 (N j) = nI (par (N j)) ∧ vp_in (nI (par (N j))) 60 ∧ T.1 75 (par (N j)) = nI (N (j + 1)) := fun j => by
    have f := hN j
    refine ⟨h80 _ f.1 f.2.1, vp_in_nI (by omega) (by omega), ?_⟩
    rw [f.2.2.2]
    exact (hEK _ f.2.1).1
  have nI9 : ∀ a b, nI (N a) = nI (N b) → N a = N b := fun a b e => nI_inj (by have := (hN a).1; omega) (by have := (hN b).1; omega) e
  have cl : ∀ j, (nI (N j)).toNatClampNeg = N j := fun j => nI_clamp (by have := (hN j).1; omega)
  have cp : ∀ j, (nI (par (N j))).toNatClampNeg = par (N j) := fun j => nI_clamp (by have := (hN j).2.1; omega)
  -- the ring's edges
  have hKr : ∀ t, eK S s (bsT T) nc nr nc nr (N (nr + 1 + 1 + (t + 1))) (N (nr + 1 + 1 + t)) (wR T (par (N (nr + 1 + 1 + t)))) (oR T (par (N (nr + 1 + 1 + t)))) := fun t => by
    have f := hN (nr + 1 + 1 + t)
    have k := (hEK _ f.2.1).2.2
    rw [f.2.2.1, ← f.2.2.2] at k
    exact k
  have col : ∃ t, t < P ∧ ∃ c, c < nc ∧ (oR T (par (N (nr + 1 + 1 + t))) = (c : Int) + 1 ∨ oR T (par (N (nr + 1 + 1 + t))) = -(c : Int) - 1) := by
    refine Classical.byContradiction (fun g => ?_)
    have : sI (fun t => wR T (par (N (nr + 1 + 1 + t)))) P = 0 := by
      rw [sI_congr (h := fun _ => 0) (fun t ht => ?_), sI_0]
      rcases hKr t with ⟨c, a1, a2, a3, a4, a5, a6⟩ | ⟨c, a1, a2, a3, a4, a5, a6⟩ | ⟨r', a1, a2, a3, a4, a5, a6⟩ | ⟨r', a1, a2, a3, a4, a5, a6, a7⟩
      · exact absurd ⟨t, ht, c, a1, Or.inl a6⟩ g
      · exact absurd ⟨t, ht, c, a1, Or.inr a6⟩ g
      · exact a5
      · exact a6
    omega
  have endP : ∀ j, j ≤ P → j ≠ 0 → N (nr + 1 + 1 + j) = N (nr + 1 + 1) → j = P := fun j hj h0 e => by
    refine Classical.byContradiction (fun g => ?_)
    exact p4 0 j (by omega) (by omega) e.symm
  unfold X7_turn
  refine ⟨vp_in_nI (by omega) (by omega), fun x ex => ?_⟩
  rw [nI_clamp (by omega), (hEK e he).2.1, ← n0] at ex
  refine zl_up2 (nr + 2) (fun i y U => U = T ∧ y = nI (N i)) (by omega) (fun i y U k hi hJ hk2 => ?_) x T ⟨rfl, ex⟩
  obtain ⟨rfl, hy⟩ := hJ
  subst hy
  show X7_turn_B9 (nI (N i)) (nI i) U Q k
  unfold X7_turn_B9
  have h6 := (hC.kp hT.1).2.2.2.2.2.1
  rw [h6, nI_1, nI_ltI (by omega) (by omega)]
  refine ⟨fun z => ?_, fun z => ?_⟩
  · have ei : i = nr + 1 + 1 := by omega
    subst ei
    unfold X7_turn_b37
    refine zl_up3 (nr + 1) (fun j y2 r V => V = U ∧ j ≤ P ∧ y2 = nI (N (nr + 1 + 1 + j)) ∧ 1 ≤ r.toInt ∧ r.toInt ≤ 1000000000000 ∧ ∀ t, t < j → rmL S s (bsT U) nc nr (oR U (par (N (nr + 1 + 1 + t)))) r.toInt) (by omega) (fun j y2 r V k3 hj hJ3 hk3 => ?_) (nI (N (nr + 1 + 1))) 1000000000000 U ⟨rfl, by omega, rfl, by rw [cF]; omega, by rw [cF]; omega, fun t ht => by omega⟩
    obtain ⟨rfl, hjP, hy2, r1, r2, hrm⟩ := hJ3
    subst hy2
    show X7_turn_B47 (nI (N (nr + 1 + 1))) (nI (N (nr + 1 + 1 + j))) r (nI j) V Q k3
    unfold X7_turn_B47
    rw [h6, nI_ltI (by omega) (by omega)]
    have fin : j = P → X7_turn_b111 r (nI (N (nr + 1 + 1))) V Q := by
      intro ej
      subst ej
      obtain ⟨tc, htc, cc, hcc, hoc⟩ := col
      have R2 : r.toInt ≤ 2000 := by
        have m := hrm tc htc
        have b := bb cc hcc
        rcases hoc with g | g
        · have := m.1 cc hcc g; omega
        · have := m.2.1 cc hcc g; omega
      have rI : (Int64.toInt32 r).toInt = r.toInt := by
        rw [Int64.toInt_toInt32]
        exact i_bm (by omega) (by omega)
      have tb : ∀ t c, t ≤ j → c < nc → -19000 ≤ trn (bsT V) r.toInt (fun t => oR V (par (N (nr + 1 + 1 + t)))) t c ∧ trn (bsT V) r.toInt (fun t => oR V (par (N (nr + 1 + 1 + t)))) t c ≤ 19000 := fun t c ht hc => by
        have b := bb c hc
        have u := sI_bd (f := fun t => uc (oR V (par (N (nr + 1 + 1 + t)))) c) (n := t) (K := 1) (fun y _ => uc_bd _ _)
        have : -9 ≤ sI (fun t => uc (oR V (par (N (nr + 1 + 1 + t)))) c) t ∧ sI (fun t => uc (oR V (par (N (nr + 1 + 1 + t)))) c) t ≤ 9 := by omega
        unfold trn
        generalize sI (fun t => uc (oR V (par (N (nr + 1 + 1 + t)))) c) t = z at *
        have m1 : r.toInt * z ≤ r.toInt * 9 := Int.mul_le_mul_of_nonneg_left this.2 (by omega)
        have m2 : r.toInt * (-9) ≤ r.toInt * z := Int.mul_le_mul_of_nonneg_left this.1 (by omega)
        omega
      unfold X7_turn_b111
      refine zl_up2 (nr + 1) (fun t y3 W => t ≤ j ∧ y3 = nI (N (nr + 1 + 1 + t)) ∧ (∀ n, n ≠ 68 → W.1 n = V.1 n) ∧ W.2 = V.2 ∧ ∀ c, c < nc → bsT W c = trn (bsT V) r.toInt (fun t => oR V (par (N (nr + 1 + 1 + t)))) t c) (by omega) (fun t y3 W k4 ht hJ4 hk4 => ?_) (nI (N (nr + 1 + 1))) V ⟨by omega, rfl, fun _ _ => rfl, rfl, fun c _ => by show bsT V c = bsT V c + r.toInt * 0; omega⟩
      obtain ⟨htj, hy3, fW, w2, bW⟩ := hJ4
      subst hy3
      show X7_turn_B117 r (nI (N (nr + 1 + 1))) (nI (N (nr + 1 + 1 + t))) (nI t) W Q k4
      unfold X7_turn_B117 X7_turn_b224
      rw [fW 61 (by decide), h6, nI_ltI (by omega) (by omega)]
      have out : t = j → Q W := by
        intro et
        subst et
        obtain ⟨g1, g2⟩ := turn_pt h1 h2 hfl hx (w := fun t => wR V (par (N (nr + 1 + 1 + t)))) (o := fun t => oR V (par (N (nr + 1 + 1 + t)))) (M := fun t => N (nr + 1 + 1 + t)) (P := t) (R := r.toInt) (fun t _ => hKr t) p3 p4 r1 (fun t ht => hrm t ht) p5
        refine q W fW w2 ?_ ?_ ⟨t, fun t => N (nr + 1 + 1 + t), fun t => wR V (par (N (nr + 1 + 1 + t))), fun t => oR V (par (N (nr + 1 + 1 + t))), r.toInt, r1, fun t _ => hKr t, p3, p4, p5, bW⟩
        · refine pt_congr (fun c hc => (bW c hc).symm) (fun _ _ => Iff.rfl) (fun c hc => ?_) g1
          rw [bW c hc]
          exact g1.1 c hc
        · have : valI (cst S) (bsT W) nc = valI (cst S) (trn (bsT V) r.toInt (fun t => oR V (par (N (nr + 1 + 1 + t)))) t) nc := sI_congr (fun c hc => by rw [bW c hc])
          rw [this]
          exact g2
      have go : t < j → X7_turn_b137 (nI (N (nr + 1 + 1 + t))) r (nI (N (nr + 1 + 1))) (nI t) W Q k4 := by
        intro hlt
        have b := b80 (nr + 1 + 1 + t)
        have b206 : ∀ Y : ZS, (∀ n, n ≠ 68 → Y.1 n = V.1 n) → Y.2 = V.2 → (∀ c, c < nc → bsT Y c = trn (bsT V) r.toInt (fun t => oR V (par (N (nr + 1 + 1 + t)))) (t + 1) c) → X7_turn_b206 (nI (N (nr + 1 + 1 + t))) r (nI (N (nr + 1 + 1))) (nI t) Y Q k4 := by
          intro Y fY y2 bY
          unfold X7_turn_b206
          rw [cl, fY 80 (by decide), b.1, cp, fY 75 (by decide), b.2.2]
          refine ⟨v9 _, b.2.1, fun v ev w ew => ?_⟩
          rw [nI_1] at ew
          subst ew
          exact hk4 (by omega) _ _ ⟨by omega, ev, fY, y2, bY⟩
        have st : ∀ c, trn (bsT V) r.toInt (fun t => oR V (par (N (nr + 1 + 1 + t)))) (t + 1) c = trn (bsT V) r.toInt (fun t => oR V (par (N (nr + 1 + 1 + t)))) t c + r.toInt * uc (oR V (par (N (nr + 1 + 1 + t)))) c := fun c => by
          unfold trn
          rw [sI_s, Int.mul_add]
          exact (Int.add_assoc _ _ _).symm
        have same : (∀ c, c < nc → uc (oR V (par (N (nr + 1 + 1 + t)))) c = 0) → X7_turn_b206 (nI (N (nr + 1 + 1 + t))) r (nI (N (nr + 1 + 1))) (nI t) W Q k4 := fun hu => b206 W fW w2 (fun c hc => by rw [st, hu c hc, bW c hc]; omega)
        unfold X7_turn_b137
        rw [cl, fW 80 (by decide), b.1, cp, fW 78 (by decide)]
        refine ⟨v9 _, b.2.1, fun v ev => ?_⟩
        have hv : v.toInt = oR V (par (N (nr + 1 + 1 + t))) := by rw [ev]; rfl
        have kk := hKr t
        generalize oR V (par (N (nr + 1 + 1 + t))) = o at *
        have hr : -110 < o ∧ o < 110 := by
          rcases kk with ⟨c, a1, a2, a3, a4, a5, a6⟩ | ⟨c, a1, a2, a3, a4, a5, a6⟩ | ⟨r', a1, a2, a3, a4, a5, a6⟩ | ⟨r', a1, a2, a3, a4, a5, a6, a7⟩ <;> omega
        have en : (-v).toInt = -v.toInt := i_neg (by omega)
        have b179 : o ≤ 0 ∨ 100 ≤ o → X7_turn_b179 (nI (N (nr + 1 + 1 + t))) r (nI (N (nr + 1 + 1))) (nI t) v W Q k4 := by
          intro ho
          unfold X7_turn_b179
          rw [i_le, i_le, c0, cm100, hv]
          refine ⟨fun g => same (fun c hc => ?_), fun g => ⟨fun g2 => same (fun c hc => ?_), fun g2 => ?_⟩⟩
          · rcases kk with ⟨c', a1, a2, a3, a4, a5, a6⟩ | ⟨c', a1, a2, a3, a4, a5, a6⟩ | ⟨r', a1, a2, a3, a4, a5, a6⟩ | ⟨r', a1, a2, a3, a4, a5, a6, a7⟩
            · omega
            · omega
            · unfold uc; rw [if_neg (by omega), if_neg (by omega)]
            · omega
          · unfold uc; rw [if_neg (by omega), if_neg (by omega)]
          · rcases kk with ⟨c', a1, a2, a3, a4, a5, a6⟩ | ⟨c', a1, a2, a3, a4, a5, a6⟩ | ⟨r', a1, a2, a3, a4, a5, a6⟩ | ⟨r', a1, a2, a3, a4, a5, a6, a7⟩
            · omega
            · have hvv := v_of (x := (-v) - (1 : Int32)) (n := 10) (k := c') (by rw [i_sub (by rw [en, c1]; omega) (by rw [en, c1]; omega), en, c1]; omega) (by omega) (by omega)
              refine ⟨hvv.1, hvv.1, fun Y eY => ?_⟩
              rw [hvv.2, nI_clamp (by omega)] at eY
              refine b206 Y (fun n hn => by rw [eY, zu_ne hn]; exact fW n hn) (by rw [eY]; exact w2) (fun c hc => ?_)
              have bt := tb t c' (by omega) a1
              have be : (W.1 68 c').toInt = trn (bsT V) r.toInt (fun t => oR V (par (N (nr + 1 + 1 + t)))) t c' := bW c' a1
              rw [st]
              unfold bsT
              rw [eY, zu_at]
              by_cases ee : c = c'
              · subst ee
                have u1 : uc o c = -1 := by unfold uc; rw [if_neg (by omega), if_pos a6]
                rw [if_pos ⟨rfl, rfl⟩, u1, i_sub (by rw [be, rI]; omega) (by rw [be, rI]; omega), be, rI]
                unfold bsT
                omega
              · have u0 : uc o c = 0 := by unfold uc; rw [if_neg (by omega), if_neg (by omega)]
                rw [if_neg (fun z => ee z.2), u0]
                have := bW c hc
                unfold bsT at this
                rw [this]
                omega
            · omega
            · omega
        rw [i_le, i_le, c0, c100, hv]
        refine ⟨fun g => b179 (Or.inl g), fun g => ⟨fun g2 => b179 (Or.inr g2), fun g2 => ?_⟩⟩
        rcases kk with ⟨c', a1, a2, a3, a4, a5, a6⟩ | ⟨c', a1, a2, a3, a4, a5, a6⟩ | ⟨r', a1, a2, a3, a4, a5, a6⟩ | ⟨r', a1, a2, a3, a4, a5, a6, a7⟩
        · have hvv := v_of (x := v - (1 : Int32)) (n := 10) (k := c') (by rw [i_sub (by rw [c1]; omega) (by rw [c1]; omega), c1]; omega) (by omega) (by omega)
          refine ⟨hvv.1, hvv.1, fun Y eY => ?_⟩
          rw [hvv.2, nI_clamp (by omega)] at eY
          refine b206 Y (fun n hn => by rw [eY, zu_ne hn]; exact fW n hn) (by rw [eY]; exact w2) (fun c hc => ?_)
          have bt := tb t c' (by omega) a1
          have be : (W.1 68 c').toInt = trn (bsT V) r.toInt (fun t => oR V (par (N (nr + 1 + 1 + t)))) t c' := bW c' a1
          rw [st]
          unfold bsT
          rw [eY, zu_at]
          by_cases ee : c = c'
          · subst ee
            have u1 : uc o c = 1 := by unfold uc; rw [if_pos a6]
            rw [if_pos ⟨rfl, rfl⟩, u1, i_add (by rw [be, rI]; omega) (by rw [be, rI]; omega), be, rI]
            unfold bsT
            omega
          · have u0 : uc o c = 0 := by unfold uc; rw [if_neg (by omega), if_neg (by omega)]
            rw [if_neg (fun z => ee z.2), u0]
            have := bW c hc
            unfold bsT at this
            rw [this]
            omega
        · omega
        · omega
        · omega
      refine ⟨fun g => out (by omega), fun g => ⟨fun g2 => go ?_, fun g2 => ⟨fun g3 => out ?_, fun g3 => go ?_⟩⟩⟩
      · have : t = 0 := by
          have := i_eq.mp g2
          rw [nI_toInt (by omega), c0] at this
          omega
        omega
      · exact endP t htj (fun z => g2 (by rw [z]; rfl)) (nI9 _ _ g3)
      · refine Nat.lt_of_le_of_ne htj (fun z => g3 (by rw [z, p3]))
    have go : j < P → X7_turn_b67 (nI (N (nr + 1 + 1 + j))) r (nI (N (nr + 1 + 1))) (nI j) V Q k3 := by
      intro hlt
      have b := b80 (nr + 1 + 1 + j)
      have b92 : ∀ t0 : Int64, 1 ≤ t0.toInt → t0.toInt ≤ 1000000000000 → (∀ t, t < j + 1 → rmL S s (bsT V) nc nr (oR V (par (N (nr + 1 + 1 + t)))) t0.toInt) → X7_turn_b92 (nI (N (nr + 1 + 1 + j))) (nI (N (nr + 1 + 1))) (nI j) t0 V Q k3 := by
        intro t0 g1 g2 g3
        unfold X7_turn_b92
        rw [cl, b.1, cp, b.2.2]
        refine ⟨v9 _, b.2.1, fun v ev w ew => ?_⟩
        rw [nI_1] at ew
        subst ew
        exact hk3 (by omega) _ _ _ ⟨rfl, by omega, ev, g1, g2, g3⟩
      unfold X7_turn_b67
      rw [cl, b.1]
      refine ⟨v9 _, x7_roomOf hC hfl hT hx.1 (by have := (hN (nr + 1 + 1 + j)).2.1; omega) (hKr j) (fun v g1 g2 g3 => ⟨fun g => b92 r r1 r2 (fun t ht => ?_), fun g => b92 v g1 g2 (fun t ht => ?_)⟩)⟩
      · rw [lg_ge] at g
        by_cases e2 : t = j
        · rw [e2]; exact g3.le g
        · exact hrm t (by omega)
      · rw [lg_ge] at g
        by_cases e2 : t = j
        · rw [e2]; exact g3
        · exact (hrm t (by omega)).le (by omega)
    refine ⟨fun g => fin (by omega), fun g => ⟨fun g2 => go ?_, fun g2 => ⟨fun g3 => fin ?_, fun g3 => go ?_⟩⟩⟩
    · have : j = 0 := by
        have := i_eq.mp g2
        rw [nI_toInt (by omega), c0] at this
        omega
      omega
    · exact endP j hjP (fun z => g2 (by rw [z]; rfl)) (nI9 _ _ g3)
    · refine Nat.lt_of_le_of_ne hjP (fun z => g3 (by rw [z, p3]))
  · have b := b80 i
    rw [cl, b.1, cp, b.2.2]
    refine ⟨v9 _, b.2.1, fun v ev w ew => ?_⟩
    rw [nI_1] at ew
    subst ew
    exact hk2 (by omega) _ _ ⟨rfl, ev⟩
