/-! the reference's spread(): labels, and the last edge that lowered one -/
def bfx (n E : Nat) (tl hd : Nat → Nat) (w : Nat → Int) (src : Nat → Prop) (F B : Int) (k i l : Nat) (d : Nat → Int) (par : Nat → Nat) : Prop :=
  ∃ (τ r : Nat → Nat) (t : Nat), (∀ v, v < n → bfP E tl hd w (fun _ => True) src F d par τ r v) ∧ (∀ v, v < n → τ v < t ∧ r v ≤ k) ∧
    (∀ e, e < E → d (tl e) < F → (e < i ∧ r (tl e) < k) ∨ r (tl e) + 1 < k → d (hd e) ≤ d (tl e) + w e) ∧
    (∀ v, v < n → d v = F ∨ (-(B * (k * E + i)) ≤ d v ∧ d v ≤ B * (k * E + i))) ∧
    (E ≤ l → ∀ v, v < n → r v < k) ∧ (l < E → hd l < n ∧ r (hd l) = k) ∧ (∀ v, v < n → src v → d v < F)
theorem bfx_start {n E : Nat} {tl hd : Nat → Nat} {w : Nat → Int} {src : Nat → Prop} {F B : Int} {d : Nat → Int} (hF : 0 < F) (h2 : ∀ v, v < n → d v = F ∨ (src v ∧ d v = 0)) (h3 : ∀ v, v < n → src v → d v = 0) (hB : 0 ≤ B) : bfx n E tl hd w src F B 1 0 E d (fun _ => E) := by
  refine ⟨fun _ => 0, fun _ => 0, 1, fun v hv => ⟨fun g => absurd (show E < E from g) (Nat.lt_irrefl _), fun _ => ⟨h2 v hv, rfl⟩⟩, fun v hv => ⟨Nat.zero_lt_one, Nat.zero_le 1⟩, fun e he _ g => ?_, fun v hv => ?_, fun _ v hv => Nat.zero_lt_one, fun g => by omega, fun v hv hs => by rw [h3 v hv hs]; exact hF⟩
  · rcases g with g | g <;> omega
  · rcases h2 v hv with g | g
    · exact Or.inl g
    · right
      have : (0 : Int) ≤ B * ((1 : Nat) * E + (0 : Nat)) := Int.mul_nonneg hB (by omega)
      rw [g.2]
      omega
theorem bfx_skip {n E : Nat} {tl hd : Nat → Nat} {w : Nat → Int} {src : Nat → Prop} {F B : Int} {k i l : Nat} {d : Nat → Int} {par : Nat → Nat} (hB : 0 ≤ B) (h : bfx n E tl hd w src F B k i l d par) (hc : d (tl i) < F → d (hd i) ≤ d (tl i) + w i) : bfx n E tl hd w src F B k (i + 1) l d par := by
  obtain ⟨τ, r, t, a1, a2, a3, a4, a5, a6, a7⟩ := h
  refine ⟨τ, r, t, a1, a2, fun e he hd2 g => ?_, fun v hv => ?_, a5, a6, a7⟩
  · rcases g with ⟨g1, g2⟩ | g
    · by_cases e2 : e = i
      · rw [e2] at hd2 ⊢; exact hc hd2
      · exact a3 e he hd2 (Or.inl ⟨by omega, g2⟩)
    · exact a3 e he hd2 (Or.inr g)
  · rcases a4 v hv with g | g
    · exact Or.inl g
    · right
      have e : B * ((k : Int) * E + ((i + 1 : Nat) : Int)) = B * (k * E + i) + B := by
        rw [show (k : Int) * E + ((i + 1 : Nat) : Int) = (k * E + i) + 1 by omega, Int.mul_add, Int.mul_one]
      rw [e]
      omega
theorem bfx_relax {n E : Nat} {tl hd : Nat → Nat} {w : Nat → Int} {src : Nat → Prop} {F B : Int} {k i l : Nat} {d : Nat → Int} {par : Nat → Nat} (hB : 0 ≤ B) (h : bfx n E tl hd w src F B k i l d par) (hi : i < E) (hn : tl i < n ∧ hd i < n) (ht : d (tl i) < F) (hl : d (tl i) + w i < d (hd i)) (hw : -B ≤ w i ∧ w i ≤ B) (hF : B * ((k : Int) * E + (i + 1 : Nat)) < F) :
    bfx n E tl hd w src F B k (i + 1) i (fup d (hd i) (d (tl i) + w i)) (nup par (hd i) i) := by
  obtain ⟨τ, r, t, a1, a2, a3, a4, a5, a6, a7⟩ := h
  have e1 : B * ((k : Int) * E + ((i + 1 : Nat) : Int)) = B * (k * E + i) + B := by
    rw [show (k : Int) * E + ((i + 1 : Nat) : Int) = (k * E + i) + 1 by omega, Int.mul_add, Int.mul_one]
  rw [e1] at hF
  have bt : -(B * (k * E + i)) ≤ d (tl i) ∧ d (tl i) ≤ B * (k * E + i) := (a4 (tl i) hn.1).elim (fun g => by omega) id
  have nw : d (tl i) + w i < F := by omega
  have hrt : k ≤ r (tl i) + 1 := by
    refine Classical.byContradiction (fun g => ?_)
    have := a3 i hi ht (Or.inr (by omega))
    omega
  have dle : ∀ v, fup d (hd i) (d (tl i) + w i) v ≤ d v := fun v => by
    by_cases e : v = hd i
    · rw [e, fup_e]; omega
    · rw [fup_n _ _ e]; exact Int.le_refl _
  have dtl : ∀ v, v ≠ hd i → fup d (hd i) (d (tl i) + w i) v = d v := fun v e => fup_n _ _ e
  refine ⟨nup τ (hd i) t, nup r (hd i) k, t + 1, fun v hv => ?_, fun v hv => ?_, fun e he hde g => ?_, fun v hv => ?_, fun g => absurd hi (by omega), fun _ => ⟨hn.2, nup_e _ _ _⟩, fun v hv hs => ?_⟩
  · by_cases ev : v = hd i
    · refine ⟨fun _ => ?_, fun g => ?_⟩
      · by_cases hne : tl i = hd i
        · rw [hne] at hl
          rw [ev, nup_e, nup_e, fup_e, hne, fup_e, nup_e, nup_e]
          rw [hne] at nw
          exact ⟨trivial, rfl, nw, nw, by omega, fun _ => by omega, by omega⟩
        · rw [ev, nup_e, nup_e, fup_e, dtl _ hne, nup_n _ _ hne, nup_e, nup_n _ _ hne]
          refine ⟨trivial, rfl, ht, nw, Int.le_refl _, fun g => ?_, hrt⟩
          have := (a2 (tl i) hn.1).1
          omega
      · rw [ev, nup_e] at g
        omega
    · obtain ⟨b1, b2⟩ := a1 v hv
      unfold bfP
      rw [nup_n par _ ev, fup_n d _ ev, nup_n τ _ ev, nup_n r _ ev]
      refine ⟨fun g => ?_, b2⟩
      obtain ⟨c1, c2, c3, c4, c5, c6, c7⟩ := b1 g
      by_cases eu : tl (par v) = hd i
      · rw [eu, fup_e, nup_e, nup_e]
        rw [eu] at c3 c5 c7
        refine ⟨c1, c2, nw, c4, by omega, fun _ => by omega, ?_⟩
        have := (a2 (hd i) hn.2).2
        omega
      · rw [dtl _ eu, nup_n _ _ eu, nup_n _ _ eu]
        exact ⟨c1, c2, c3, c4, c5, c6, c7⟩
  · by_cases ev : v = hd i
    · rw [ev, nup_e, nup_e]; omega
    · rw [nup_n _ _ ev, nup_n _ _ ev]
      have := a2 v hv
      omega
  · by_cases eu : tl e = hd i
    · rw [eu, nup_e] at g
      rcases g with g | g
      · omega
      · omega
    · rw [dtl _ eu] at hde ⊢
      rw [nup_n _ _ eu] at g
      by_cases e2 : e = i
      · rw [e2, fup_e]; exact Int.le_refl _
      · refine Int.le_trans (dle (hd e)) ?_
        rcases g with ⟨g1, g2⟩ | g
        · exact a3 e he hde (Or.inl ⟨by omega, g2⟩)
        · exact a3 e he hde (Or.inr g)
  · by_cases ev : v = hd i
    · right
      rw [ev, fup_e, e1]
      omega
    · rw [fup_n _ _ ev]
      rcases a4 v hv with g | g
      · exact Or.inl g
      · right; rw [e1]; omega
  · have := a7 v hv hs
    have := dle v
    omega
theorem bfx_next {n E : Nat} {tl hd : Nat → Nat} {w : Nat → Int} {src : Nat → Prop} {F B : Int} {k l : Nat} {d : Nat → Int} {par : Nat → Nat} (h : bfx n E tl hd w src F B k E l d par) : bfx n E tl hd w src F B (k + 1) 0 E d par := by
  obtain ⟨τ, r, t, a1, a2, a3, a4, a5, a6, a7⟩ := h
  refine ⟨τ, r, t, a1, fun v hv => ⟨(a2 v hv).1, by have := (a2 v hv).2; omega⟩, fun e he hde g => ?_, fun v hv => ?_, fun _ v hv => by have := (a2 v hv).2; omega, fun g => by omega, a7⟩
  · rcases g with g | g
    · omega
    · exact a3 e he hde (Or.inl ⟨he, by omega⟩)
  · have e : ((k + 1 : Nat) : Int) * E + ((0 : Nat) : Int) = (k : Int) * E + E := by
      rw [Int.natCast_add, Int.add_mul]
      simp
    rw [e]
    exact a4 v hv
/-- nothing was lowered in the last round: no edge lowers anything -/
theorem bfx_done {n E : Nat} {tl hd : Nat → Nat} {w : Nat → Int} {src : Nat → Prop} {F B : Int} {k l : Nat} {d : Nat → Int} {par : Nat → Nat} (hn : ∀ e, e < E → tl e < n) (h : bfx n E tl hd w src F B k E l d par) (hl : E ≤ l) : ∀ e, e < E → d (tl e) < F → d (hd e) ≤ d (tl e) + w e := by
  obtain ⟨τ, r, t, a1, a2, a3, a4, a5, a6, a7⟩ := h
  exact fun e he hde => a3 e he hde (Or.inl ⟨he, a5 hl _ (hn e he)⟩)
/-- the state: edges, labels -/
def tlR (T : ZS) (e : Nat) : Nat := (T.1 75 e).toNatClampNeg
def hdR (T : ZS) (e : Nat) : Nat := (T.1 76 e).toNatClampNeg
def wR (T : ZS) (e : Nat) : Int := (T.2 77 e).toInt
def oR (T : ZS) (e : Nat) : Int := (T.1 78 e).toInt
def faT (T : ZS) (v : Nat) : Int := (T.2 79 v).toInt
def edS (T : ZS) (E nr : Nat) (B : Int) : Prop := T.1 61 20 = nI E ∧ ∀ e, e < E → T.1 75 e = nI (tlR T e) ∧ T.1 76 e = nI (hdR T e) ∧ tlR T e ≤ nr ∧ hdR T e ≤ nr ∧ -B ≤ wR T e ∧ wR T e ≤ B
def zSp (T U : ZS) : Prop := (∀ n, n ≠ 80 → U.1 n = T.1 n) ∧ ∀ n, n ≠ 79 → U.2 n = T.2 n
theorem zSp.rf (T : ZS) : zSp T T := ⟨fun _ _ => rfl, fun _ _ => rfl⟩
theorem zSp.kp {T U : ZS} (h : zSp T U) : zKp T U := zKp.of (fun n hn => h.1 n (fun e => by subst e; cases hn)) (h.1 61 (by decide))
theorem kE_w {B : Int} {k i E M : Nat} (hB0 : 0 ≤ B) (hk : k ≤ 10) (hE : E ≤ M) (hi : i ≤ E) : B * ((k : Int) * E + i) ≤ B * (11 * M) := by
  have a : (k : Int) * E ≤ 10 * M := Int.mul_le_mul (by omega) (by omega) (by omega) (by omega)
  exact Int.mul_le_mul_of_nonneg_left (by omega) hB0
theorem kE_10 {B : Int} {k i E : Nat} (hB0 : 0 ≤ B) (hB : B ≤ 10000000) (hk : k ≤ 10) (hE : E ≤ 60) (hi : i ≤ E) : B * ((k : Int) * E + i) ≤ 6600000000 := by
  have a := kE_w (M := 60) hB0 hk hE hi
  have b : B * (11 * (60 : Nat)) = 660 * B := by rw [Int.mul_comm]; rfl
  omega
set_option maxHeartbeats 1000000 in
theorem x7_spread {nc nr E : Nat} {B : Int} {src : Nat → Prop} {S T : ZS} {Q : Int32 → ZS → Prop} (hC : zC S nc nr) (hk : zKp S T) (hE : edS T E nr B) (hE60 : E ≤ 60) (hB0 : 0 ≤ B) (hB : B ≤ 10000000) (hd0 : ∀ v, v < nr + 1 → faT T v = 1000000000000 ∨ (src v ∧ faT T v = 0)) (hs0 : ∀ v, v < nr + 1 → src v → faT T v = 0)
    (q : ∀ (U : ZS) (x : Int32) (l : Nat) (par : Nat → Nat), zSp T U → ((x = -1 ∧ l = E) ∨ (l < E ∧ x = nI l)) → bfx (nr + 1) E (tlR T) (hdR T) (wR T) src 1000000000000 B (nr + 2) E l (faT U) par → (∀ v, v < nr + 1 → par v < E → U.1 80 v = nI (par v)) → Q x U) : X7_spread T Q := by
  have h2 := hC.2.1
  have cF : (1000000000000 : Int64).toInt = 1000000000000 := by decide
  unfold X7_spread
  refine zl_up2 (nr + 2) (fun i x U => zSp T U ∧ ((i = 0 ∧ U = T) ∨ (1 ≤ i ∧ ∃ l par, ((x = -1 ∧ l = E) ∨ (l < E ∧ x = nI l)) ∧ bfx (nr + 1) E (tlR T) (hdR T) (wR T) src 1000000000000 B i E l (faT U) par ∧ ∀ v, v < nr + 1 → par v < E → U.1 80 v = nI (par v)))) (by omega) (fun i x U k hi hJ hk2 => ?_) (-1) T ⟨zSp.rf T, Or.inl ⟨rfl, rfl⟩⟩
  obtain ⟨fU, hJ⟩ := hJ
  show X7_spread_B4 x (nI i) U Q k
  unfold X7_spread_B4 X7_spread_b120
  rw [(hC.kp (hk.tr fU.kp)).2.2.2.2.2.1, nI_1, nI_ltI (by omega) (by omega)]
  refine ⟨fun z => ?_, fun z => ?_⟩
  · have ei : i = nr + 2 := by omega
    rcases hJ with ⟨a, _⟩ | ⟨_, l, par, b1, b2, b3⟩
    · omega
    · rw [ei] at b2
      exact q U x l par fU b1 b2 b3
  · have st : ∃ par, bfx (nr + 1) E (tlR T) (hdR T) (wR T) src 1000000000000 B (i + 1) 0 E (faT U) par ∧ ∀ v, v < nr + 1 → par v < E → U.1 80 v = nI (par v) := by
      rcases hJ with ⟨a, b⟩ | ⟨_, l, par, b1, b2, b3⟩
      · rw [a, b]
        exact ⟨fun _ => E, bfx_start (by decide) hd0 hs0 hB0, fun v _ g => absurd (show E < E from g) (Nat.lt_irrefl _)⟩
      · exact ⟨par, bfx_next b2, b3⟩
    obtain ⟨par0, st1, st2⟩ := st
    refine zl_up2 E (fun e y V => zSp T V ∧ ∃ l par, ((y = -1 ∧ l = E) ∨ (l < E ∧ y = nI l)) ∧ bfx (nr + 1) E (tlR T) (hdR T) (wR T) src 1000000000000 B (i + 1) e l (faT V) par ∧ ∀ v, v < nr + 1 → par v < E → V.1 80 v = nI (par v)) (by omega) (fun e y V k3 he hJ3 hk3 => ?_) (-1) U ⟨fU, E, par0, Or.inl ⟨rfl, rfl⟩, st1, st2⟩
    obtain ⟨fV, l, par, b1, b2, b3⟩ := hJ3
    show X7_spread_B18 (nI i) y (nI e) V Q k k3
    unfold X7_spread_B18 X7_spread_b114
    rw [fV.1 61 (by decide), hE.1]
    refine ⟨fun z3 w ew => ?_, fun z2 => ?_⟩
    · rw [nI_1] at ew
      subst ew
      have := up_endG (by omega) he z3
      rw [this] at b2
      exact hk2 (by omega) _ _ ⟨fV, Or.inr ⟨by omega, l, par, b1, b2, b3⟩⟩
    · have hel := up_onG (by omega) he z2
      have hve : vp_in (nI e) 60 := vp_in_nI (by omega) (by omega)
      obtain ⟨g1, g2, g3, g4, g5, g6⟩ := hE.2 e hel
      have nt : vp_in (nI (tlR T e)) 9 := vp_in_nI (by omega) (by omega)
      have nh : vp_in (nI (hdR T e)) 9 := vp_in_nI (by omega) (by omega)
      have b4 := b2
      obtain ⟨τ, r, t, a1, a2, a3, a4, a5, a6, a7⟩ := b4
      have bd := kE_10 (k := i + 1) (i := e) hB0 hB (by omega) hE60 (by omega)
      have bd1 := kE_10 (k := i + 1) (i := e + 1) hB0 hB (by omega) hE60 (by omega)
      have bt := a4 (tlR T e) (by omega)
      have bh := a4 (hdR T e) (by omega)
      have nx : ∀ (x' : Int32) (W : ZS) (l' : Nat) (par' : Nat → Nat), zSp T W → ((x' = -1 ∧ l' = E) ∨ (l' < E ∧ x' = nI l')) → bfx (nr + 1) E (tlR T) (hdR T) (wR T) src 1000000000000 B (i + 1) (e + 1) l' (faT W) par' → (∀ v, v < nr + 1 → par' v < E → W.1 80 v = nI (par' v)) → X7_spread_b108 x' (nI i) (nI e) W Q k k3 := by
        intro x' W l' par' fW c1 c2 c3
        unfold X7_spread_b108
        intro w ew
        rw [nI_1] at ew
        subst ew
        exact hk3 hel _ _ ⟨fW, l', par', c1, c2, c3⟩
      have e77 : (V.2 77 e).toInt = wR T e := by rw [fV.2 77 (by decide)]; rfl
      rw [nI_clamp (by omega), fV.1 75 (by decide), fV.1 76 (by decide), g1, g2, nI_clamp (by omega), nI_clamp (by omega)]
      refine ⟨hve, nt, hve, fun x4 e4 => ⟨hve, nt, fun g => ?_, fun g => ⟨hve, nh, fun g7 => ?_, fun g7 => ⟨hve, nh, fun W eW => ?_⟩⟩⟩⟩
      · rw [lg_ge, cF] at g
        refine nx y V l par fV b1 (bfx_skip hB0 b2 (fun z => ?_)) b3
        have : (1000000000000 : Int) ≤ faT V (tlR T e) := g
        omega
      · rw [lg_ge, cF] at g
        have gt : faT V (tlR T e) < 1000000000000 := by show (V.2 79 (tlR T e)).toInt < _; omega
        have x4e : x4.toInt = faT V (tlR T e) + wR T e := by
          rw [e4, l_add (by rw [e77]; show _ ≤ faT V (tlR T e) + _; omega) (by rw [e77]; show faT V (tlR T e) + _ ≤ _; omega), e77]
          rfl
        rw [lg_ge, x4e] at g7
        exact nx y V l par fV b1 (bfx_skip hB0 b2 (fun _ => g7)) b3
      · rw [lg_ge, cF] at g
        have gt : faT V (tlR T e) < 1000000000000 := by show (V.2 79 (tlR T e)).toInt < _; omega
        have x4e : x4.toInt = faT V (tlR T e) + wR T e := by
          rw [e4, l_add (by rw [e77]; show _ ≤ faT V (tlR T e) + _; omega) (by rw [e77]; show faT V (tlR T e) + _ ≤ _; omega), e77]
          rfl
        rw [lg_ge, x4e] at g7
        have w1 : W.1 = V.1 := by rw [eW]; rfl
        rw [w1, fV.1 76 (by decide), g2, nI_clamp (by omega)]
        refine ⟨hve, nh, fun Y eY => ?_⟩
        have rel := bfx_relax hB0 b2 hel ⟨by omega, by omega⟩ gt (by show _ < (V.2 79 (hdR T e)).toInt; omega) ⟨g5, g6⟩ (by omega)
        have y79 : ∀ v, faT Y v = fup (faT V) (hdR T e) (faT V (tlR T e) + wR T e) v := fun v => by
          unfold faT fup
          have : Y.2 = W.2 := by rw [eY]; rfl
          rw [this, eW, zw_at]
          by_cases ee : v = hdR T e
          · rw [if_pos ⟨rfl, ee⟩, if_pos ee, x4e]; rfl
          · rw [if_neg (fun z => ee z.2), if_neg ee]
        have y79' : faT Y = fup (faT V) (hdR T e) (faT V (tlR T e) + wR T e) := funext y79
        rw [← y79'] at rel
        refine nx (nI e) Y e (nup par (hdR T e) e) ⟨fun n hn => by rw [eY, zu_ne hn, w1]; exact fV.1 n hn, fun n hn => ?_⟩ (Or.inr ⟨hel, rfl⟩) rel (fun v hv g => ?_)
        · have : Y.2 = W.2 := by rw [eY]; rfl
          rw [this, eW, zw_ne hn]; exact fV.2 n hn
        · rw [eY, zu_at]
          by_cases ee : v = hdR T e
          · rw [if_pos ⟨rfl, ee⟩, ee, nup_e]
          · rw [nup_n _ _ ee] at g
            rw [if_neg (fun z => ee z.2), w1, nup_n _ _ ee]
            exact b3 v hv g
