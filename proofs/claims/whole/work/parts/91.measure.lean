/-! the class's distances -/
def tlE (T : ZS) (e : Nat) : Nat := if e % 2 = 0 then dA T (e / 2) else uA T (e / 2)
def hdE (T : ZS) (e : Nat) : Nat := if e % 2 = 0 then uA T (e / 2) else dA T (e / 2)
def wE (T : ZS) (e : Nat) : Int := if e % 2 = 0 then wA T (e / 2) else -wA T (e / 2)
def rE (T : ZS) (e : Nat) : Prop := if e % 2 = 0 then xA T (e / 2) < hA T (e / 2) else lA T (e / 2) < xA T (e / 2)
def srcN (T : ZS) (v : Nat) : Prop := nA T v < 0
theorem ev_0 (T : ZS) (a : Nat) : tlE T (2 * a) = dA T a ∧ hdE T (2 * a) = uA T a ∧ wE T (2 * a) = wA T a ∧ (rE T (2 * a) ↔ xA T a < hA T a) := by
  have h1 : 2 * a % 2 = 0 := by omega
  have h2 : 2 * a / 2 = a := by omega
  unfold tlE hdE wE rE
  rw [h1, h2]
  exact ⟨rfl, rfl, rfl, Iff.rfl⟩
theorem ev_1 (T : ZS) (a : Nat) : tlE T (2 * a + 1) = uA T a ∧ hdE T (2 * a + 1) = dA T a ∧ wE T (2 * a + 1) = -wA T a ∧ (rE T (2 * a + 1) ↔ lA T a < xA T a) := by
  have h1 : (2 * a + 1) % 2 = 1 := by omega
  have h2 : (2 * a + 1) / 2 = a := by omega
  unfold tlE hdE wE rE
  rw [h1, h2]
  exact ⟨rfl, rfl, rfl, Iff.rfl⟩
theorem edge_nd {T : ZS} {m e : Nat} {b : Nat → Int} (h : net T m b) (he : e < 2 * m) : tlE T e < 9 ∧ hdE T e < 9 ∧ -1100000 ≤ wE T e ∧ wE T e ≤ 1100000 := by
  have h1 := h.2.2.1 (e / 2) (by omega)
  unfold arcOK at h1
  unfold tlE hdE wE
  by_cases g : e % 2 = 0
  · rw [if_pos g, if_pos g, if_pos g]; omega
  · rw [if_neg g, if_neg g, if_neg g]; omega
/-- all but the distances stays -/
def zM (T U : ZS) : Prop := U.2 = T.2 ∧ ∀ n, n ≠ 34 → n ≠ 35 → n ≠ 36 → U.1 n = T.1 n
theorem zM.rf (T : ZS) : zM T T := ⟨rfl, fun _ _ _ _ => rfl⟩
theorem zM.u {T U : ZS} {n j : Nat} {v : Int32} (h : zM T U) (hn : n = 34 ∨ n = 35 ∨ n = 36) : zM T (zu U n j v) := ⟨h.1, fun k a b c => by rw [zu_ne (by omega)]; exact h.2 k a b c⟩
def parR (U : ZS) (m : Nat) (par : Nat → Nat) : Prop := ∀ v, v < 9 → (U.1 35 v = -1 ∧ par v = 2 * m) ∨ ∃ a, a < m ∧ U.1 35 v = nI a ∧ ((U.1 36 v = 1 ∧ par v = 2 * a) ∨ (U.1 36 v = 0 ∧ par v = 2 * a + 1))
theorem x1_comesNearer {a e m : Nat} {y2 : Int32} {b d : Nat → Int} {par : Nat → Nat} {T U : ZS} {Q : Int32 → ZS → Prop} (hN : net T m b) (hM : zM T U) (hd : ∀ v, v < 9 → (U.1 34 v).toInt = d v) (hp : parR U m par) (hB : ∀ v, v < 9 → d v = 1000000000 ∨ (-400000000 ≤ d v ∧ d v ≤ 400000000)) (ha : a < m) (ey : (y2 = 1 ∧ e = 2 * a) ∨ (y2 = 0 ∧ e = 2 * a + 1))
    (q0 : (d (tlE T e) < 1000000000 → d (hdE T e) ≤ d (tlE T e) + wE T e) → Q 0 U)
    (q1 : d (tlE T e) < 1000000000 → d (tlE T e) + wE T e < d (hdE T e) → ∀ V, zM T V → (∀ v, v < 9 → (V.1 34 v).toInt = fup d (hdE T e) (d (tlE T e) + wE T e) v) → parR V m (nup par (hdE T e) e) → Q 1 V) : X1_comesNearer (nI a) y2 U Q := by
  have h18 := hN.1
  have hva : vp_in (nI a) 18 := vp_in_nI (by omega) (by omega)
  have cF : (1000000000 : Int32).toInt = 1000000000 := by decide
  have hz : zbit y2 := by rcases ey with ⟨e, _⟩ | ⟨e, _⟩ <;> rw [e] <;> first | exact Or.inr rfl | exact Or.inl rfl
  have ok := hN.2.2.1 a ha
  have e26 : U.1 26 a = nI (uA T a) := by rw [hM.2 26 (by decide) (by decide) (by decide)]; exact ok.2.2.1
  have e27 : U.1 27 a = nI (dA T a) := by rw [hM.2 27 (by decide) (by decide) (by decide)]; exact ok.2.2.2.1
  have e32 : (U.1 32 a).toInt = wA T a := by rw [hM.2 32 (by decide) (by decide) (by decide)]; rfl
  have u8 := ok.1
  have d8 := ok.2.1
  have wb : -1100000 ≤ wA T a ∧ wA T a ≤ 1100000 := ⟨ok.2.2.2.2.2.2.2.2.1, ok.2.2.2.2.2.2.2.2.2⟩
  have core : ∀ (f g : Nat) (wt : Int32), tlE T e = f → hdE T e = g → f ≤ 8 → g ≤ 8 → wt.toInt = wE T e → -1100000 ≤ wE T e → wE T e ≤ 1100000 → ¬ U.1 34 f = 1000000000 → X1_comesNearer_b80 (nI a) y2 (nI g) wt (U.1 34 f) U Q := by
    intro f g wt ef eg hf hg hw w1 w2 hne
    rw [ef, eg] at q0 q1
    have hvg : vp_in (nI g) 9 := vp_in_nI (by omega) (by omega)
    have df := hd f (by omega)
    have dg := hd g (by omega)
    have lt : d f < 1000000000 := by
      rcases hB f (by omega) with h | h
      · exact absurd (i_eq.mpr (by rw [df, h, cF])) hne
      · omega
    have bf' : -400000000 ≤ d f ∧ d f ≤ 400000000 := (hB f (by omega)).elim (fun h => by omega) id
    unfold X1_comesNearer_b80
    intro x5 e5
    have v5 : x5.toInt = d f + wE T e := by rw [e5, i_add (by rw [df, hw]; omega) (by rw [df, hw]; omega), df, hw]
    rw [nI_clamp (by omega), i_lt, v5, dg]
    refine ⟨hvg, fun g1 => ⟨hvg, fun V1 e1 => ⟨hvg, fun V2 e2 => ⟨hz, hvg, fun V3 e3 => ⟨Or.inr rfl, ?_⟩⟩⟩⟩, fun g1 => ⟨Or.inl rfl, q0 (fun _ => by omega)⟩⟩
    have m3 : zM T V3 := by rw [e3, e2, e1]; exact ((hM.u (Or.inl rfl)).u (Or.inr (Or.inl rfl))).u (Or.inr (Or.inr rfl))
    refine q1 lt g1 V3 m3 (fun v hv => ?_) (fun v hv => ?_)
    · rw [e3, zu_ne (by decide), e2, zu_ne (by decide), e1, zu_at]
      by_cases w : v = g
      · rw [if_pos ⟨rfl, w⟩, w, fup_e, v5]
      · rw [if_neg (fun z => w z.2), fup_n _ _ w]; exact hd v hv
    · have c35 : V3.1 35 v = if v = g then nI a else U.1 35 v := by
        rw [e3, zu_ne (by decide), e2, zu_at, e1, zu_ne (by decide)]
        by_cases w : v = g <;> simp [w]
      have c36 : V3.1 36 v = if v = g then y2 else U.1 36 v := by
        rw [e3, zu_at, e2, zu_ne (by decide), e1, zu_ne (by decide)]
        by_cases w : v = g <;> simp [w]
      rw [c35, c36]
      by_cases w : v = g
      · rw [if_pos w, if_pos w, w, nup_e]
        exact Or.inr ⟨a, ha, rfl, ey⟩
      · rw [if_neg w, if_neg w, nup_n _ _ w]
        exact hp v hv
  have far : ∀ f, tlE T e = f → f ≤ 8 → U.1 34 f = 1000000000 → Q 0 U := fun f ef hf h => q0 (fun g => by
    rw [ef] at g
    have := hd f (by omega)
    rw [h, cF] at this
    omega)
  unfold X1_comesNearer X1_comesNearer_b19 X1_comesNearer_b39
  rw [nI_clamp (by omega), e26, e27, nI_clamp (by omega), nI_clamp (by omega)]
  have hvu : vp_in (nI (uA T a)) 9 := vp_in_nI (by omega) (by omega)
  have hvd : vp_in (nI (dA T a)) 9 := vp_in_nI (by omega) (by omega)
  rcases ey with ⟨ey, ee⟩ | ⟨ey, ee⟩
  · obtain ⟨t1, t2, t3, t4⟩ := ev_0 T a
    rw [← ee] at t1 t2 t3
    subst ey
    refine ⟨fun h => absurd h (by decide), fun _ => ⟨hva, fun h => absurd h (by decide), fun _ => ⟨hva, hvd, fun h => ⟨Or.inl rfl, far _ t1 d8 h⟩, fun h => ⟨hvd, fun h2 => absurd h2 (by decide), fun _ => ⟨hva, ?_⟩⟩⟩⟩⟩
    exact core _ _ _ t1 t2 d8 u8 (by rw [e32, t3]) (by rw [t3]; exact wb.1) (by rw [t3]; exact wb.2) h
  · obtain ⟨t1, t2, t3, t4⟩ := ev_1 T a
    rw [← ee] at t1 t2 t3
    subst ey
    refine ⟨fun _ => ⟨hva, fun _ => ⟨hva, hvu, fun h => ⟨Or.inl rfl, far _ t1 u8 h⟩, fun h => ⟨hvu, fun _ => ⟨hva, ?_⟩, fun h2 => absurd rfl h2⟩⟩, fun h => absurd rfl h⟩, fun h => absurd rfl h⟩
    exact core _ _ _ t1 t2 u8 d8 (by rw [i_neg (by rw [e32]; omega), e32, t3]) (by rw [t3]; omega) (by rw [t3]; omega) h
theorem bf_bd {n E : Nat} {tl hd : Nat → Nat} {w : Nat → Int} {res src : Nat → Prop} {F B : Int} {k i : Nat} {x : Bool} {d : Nat → Int} {par : Nat → Nat} (h : bf n E tl hd w res src F B k i x d par) : ∀ v, v < n → d v = F ∨ (-(B * (k * E + i)) ≤ d v ∧ d v ≤ B * (k * E + i)) := by
  obtain ⟨τ, r, t, a1, a2, a3, a4, a5, a6, a7⟩ := h
  exact a4
theorem kE_bd {k i m : Nat} (hk : k ≤ 9) (hm : m ≤ 18) (hi : i ≤ 2 * m) : (1100000 : Int) * ((k : Int) * ((2 * m : Nat) : Int) + (i : Int)) ≤ 396000000 ∧ 0 ≤ (1100000 : Int) * ((k : Int) * ((2 * m : Nat) : Int) + (i : Int)) := by
  have h1 : k * (2 * m) ≤ 9 * 36 := Nat.mul_le_mul hk (by omega)
  have h2 : ((k * (2 * m) : Nat) : Int) = (k : Int) * ((2 * m : Nat) : Int) := Int.natCast_mul _ _
  rw [← h2]
  omega
theorem x1_measure {m : Nat} {b π : Nat → Int} {T : ZS} {Q : ZS → Prop} (hN : net T m b) (hπ : ∀ e, e < 2 * m → rE T e → π (hdE T e) ≤ π (tlE T e) + wE T e)
    (q : ∀ U d par, zM T U → (∀ v, v < 9 → (U.1 34 v).toInt = d v) → parR U m par → (∀ v, v < 9 → d v = 1000000000 ∨ (-400000000 ≤ d v ∧ d v ≤ 400000000)) → bfC 9 (2 * m) (tlE T) (hdE T) (wE T) (rE T) (srcN T) 1000000000 d par → Q U) : X1_measure T Q := by
  have h18 := hN.1
  have cF : (1000000000 : Int32).toInt = 1000000000 := by decide
  have c0 : (0 : Int32).toInt = 0 := by decide
  unfold X1_measure
  refine zl_up 9 (fun i U => zM T U ∧ ∀ v, v < i → (U.1 34 v).toInt = (if nA T v < 0 then 0 else 1000000000) ∧ U.1 35 v = -1) (by omega) (fun i U k hi hJ hk2 => ?_) T ⟨zM.rf T, fun v hv => by omega⟩
  obtain ⟨mU, bU⟩ := hJ
  show X1_measure_B2 (nI i) U Q k
  unfold X1_measure_B2
  refine ⟨fun z => ?_, fun z => ?_⟩
  · have := up_end (n := 9) (by omega) hi z
    subst this
    unfold X1_measure_b42
    refine zl_up2 9 (fun j x V => zbit x ∧ ∃ d par, zM T V ∧ (∀ v, v < 9 → (V.1 34 v).toInt = d v) ∧ parR V m par ∧ (∀ v, v < 9 → d v = 1000000000 ∨ (-400000000 ≤ d v ∧ d v ≤ 400000000)) ∧ (x = 1 → j < 9 ∧ bf 9 (2 * m) (tlE T) (hdE T) (wE T) (rE T) (srcN T) 1000000000 1100000 (j + 1) 0 false d par) ∧ (x = 0 → bfC 9 (2 * m) (tlE T) (hdE T) (wE T) (rE T) (srcN T) 1000000000 d par)) (by omega) (fun j x V k3 hj hJ hk3 => ?_) 1 U ⟨Or.inr rfl, fun v => if nA T v < 0 then 0 else 1000000000, fun _ => 2 * m, mU, fun v hv => (bU v hv).1, fun v hv => Or.inl ⟨(bU v hv).2, rfl⟩, fun v hv => ?_, fun _ => ⟨by omega, bf_start (by omega) (fun v _ => Nat.le_refl _) (fun v hv => ?_) (fun v hv hs => if_pos hs) (by omega)⟩, fun e => absurd e (by decide)⟩
    · obtain ⟨hz, d, par, mV, dV, pV, hB, h1, h0⟩ := hJ
      show X1_measure_B46 x (nI j) V Q k3
      unfold X1_measure_B46 X1_measure_b144
      refine ⟨fun g => q V d par mV dV pV hB (h0 g), fun g => ?_⟩
      obtain ⟨hjl, hbf⟩ := h1 (bit_1 hz g)
      refine ⟨fun z2 => ?_, fun z2 => ?_⟩
      · have := up_end (n := 9) (by omega) hj z2
        omega
      · refine zl_up2 m (fun a y W => ∃ (ch : Bool) (d : Nat → Int) (par : Nat → Nat), y = (if ch = true then 1 else 0) ∧ zM T W ∧ (∀ v, v < 9 → (W.1 34 v).toInt = d v) ∧ parR W m par ∧ bf 9 (2 * m) (tlE T) (hdE T) (wE T) (rE T) (srcN T) 1000000000 1100000 (j + 1) (2 * a) ch d par) (by omega) (fun a y W k4 ha hJ4 hk4 => ?_) 0 V ⟨false, d, par, rfl, mV, dV, pV, hbf⟩
        obtain ⟨ch, d2, par2, ey, mW, dW, pW, bW⟩ := hJ4
        have lim : ∀ {i : Nat} {ch : Bool} {d : Nat → Int} {par : Nat → Nat}, i ≤ 2 * m → bf 9 (2 * m) (tlE T) (hdE T) (wE T) (rE T) (srcN T) 1000000000 1100000 (j + 1) i ch d par → ∀ v, v < 9 → d v = 1000000000 ∨ (-400000000 ≤ d v ∧ d v ≤ 400000000) := fun hi2 hb v hv => by
          have h1 := kE_bd (k := j + 1) (m := m) (by omega) h18 hi2
          rcases bf_bd hb v hv with g | g
          · exact Or.inl g
          · right; omega
        show X1_measure_B60 (nI j) y (nI a) W Q k3 k4
        unfold X1_measure_B60 X1_measure_b138
        have w3 : W.1 3 0 = nI m := by rw [mW.2 3 (by decide) (by decide) (by decide)]; exact hN.2.1
        rw [w3]
        refine ⟨fun z3 w ew => ?_, fun z3 => ?_⟩
        · have := up_endG (n := m) (by omega) ha z3
          subst this
          rw [nI_1] at ew
          subst ew
          have hB2 := lim (Nat.le_refl _) bW
          refine hk3 hjl _ _ ⟨?_, d2, par2, mW, dW, pW, hB2, fun e => ?_, fun e => ?_⟩
          · rw [ey]; split
            · exact Or.inr rfl
            · exact Or.inl rfl
          · have hc : ch = true := by
              cases ch
              · rw [ey] at e; exact absurd e (by decide)
              · rfl
            have hs := bf_short (fun e he => (edge_nd hN he).1) hπ bW hc
            exact ⟨hs, bf_next bW⟩
          · have hc : ch = false := by
              cases ch
              · rfl
              · rw [ey] at e; exact absurd e (by decide)
            rw [hc] at bW
            exact bf_done (fun e he => (edge_nd hN he).1) bW
        · have hal := up_onG (n := m) (by omega) ha z3
          have hva : vp_in (nI a) 18 := vp_in_nI (by omega) (by omega)
          rw [nI_clamp (by omega)]
          have or0 : ∀ c : Bool, (if c = true then (1 : Int32) else 0) ||| (0 : Int32) = if c = true then 1 else 0 := by decide
          have or1 : ∀ c : Bool, (if c = true then (1 : Int32) else 0) ||| (1 : Int32) = 1 := by decide
          -- one edge: skipped or taken
          have relax : ∀ {e : Nat} {ch : Bool} {d : Nat → Int} {par : Nat → Nat}, e < 2 * m → rE T e → bf 9 (2 * m) (tlE T) (hdE T) (wE T) (rE T) (srcN T) 1000000000 1100000 (j + 1) e ch d par → d (tlE T e) < 1000000000 → d (tlE T e) + wE T e < d (hdE T e) → bf 9 (2 * m) (tlE T) (hdE T) (wE T) (rE T) (srcN T) 1000000000 1100000 (j + 1) (e + 1) true (fup d (hdE T e) (d (tlE T e) + wE T e)) (nup par (hdE T e) e) := fun {e ch d par} he hr hb hl hlt => by
            have en := edge_nd hN he
            have h1 := kE_bd (k := j + 1) (m := m) (i := e + 1) (by omega) h18 (by omega)
            refine bf_relax (by omega) hb he ⟨en.1, en.2.1⟩ hr hl hlt en.2.2 (by omega) (fun eq => ?_)
            have h2 := hπ e he hr
            rw [eq] at h2 hlt
            omega
          have second : ∀ (ch : Bool) (d : Nat → Int) (par : Nat → Nat) (Y : ZS), zM T Y → (∀ v, v < 9 → (Y.1 34 v).toInt = d v) → parR Y m par → bf 9 (2 * m) (tlE T) (hdE T) (wE T) (rE T) (srcN T) 1000000000 1100000 (j + 1) (2 * a + 1) ch d par → ∀ t0 t1 : Int32, t1 ||| t0 = (if ch = true then 1 else 0) → X1_measure_b98 (nI j) (nI a) t0 t1 Y Q k3 k4 := by
            intro ch d par Y mY dY pY bY t0 t1 et
            have y28 : (Y.1 28 a).toInt = lA T a := by rw [mY.2 28 (by decide) (by decide) (by decide)]; rfl
            have y31 : (Y.1 31 a).toInt = xA T a := by rw [mY.2 31 (by decide) (by decide) (by decide)]; rfl
            obtain ⟨r1, r2, r3, r4⟩ := ev_1 T a
            have done : ∀ (ch2 : Bool) (d2 : Nat → Int) (par2 : Nat → Nat) (Z : ZS), zM T Z → (∀ v, v < 9 → (Z.1 34 v).toInt = d2 v) → parR Z m par2 → bf 9 (2 * m) (tlE T) (hdE T) (wE T) (rE T) (srcN T) 1000000000 1100000 (j + 1) (2 * a + 1 + 1) ch2 d2 par2 → ∀ t0 t1 : Int32, t1 ||| t0 = (if ch2 = true then 1 else 0) → X1_measure_b130 (nI j) (nI a) t0 t1 Z Q k3 k4 := by
              intro ch2 d2 par2 Z mZ dZ pZ bZ t0 t1 et
              unfold X1_measure_b130
              intro x1 ex w ew
              rw [nI_1] at ew
              subst ew
              exact hk4 hal _ _ ⟨ch2, d2, par2, ex.trans et, mZ, dZ, pZ, bZ⟩
            unfold X1_measure_b98
            intro x1 ex
            rw [et] at ex
            subst ex
            rw [nI_clamp (by omega), i_le, y28, y31]
            unfold X1_measure_b129
            refine ⟨hva, hva, fun g => done ch d par Y mY dY pY (bf_skip (by omega) bY (fun hr => absurd (r4.mp hr) (by omega))) _ _ (or0 ch), fun g => ?_⟩
            refine x1_comesNearer (e := 2 * a + 1) hN mY dY pY (lim (by omega) bY) hal (Or.inr ⟨rfl, rfl⟩) (fun hc => ⟨fun _ => done ch d par Y mY dY pY (bf_skip (by omega) bY (fun _ => hc)) _ _ (or0 ch), fun h => absurd rfl h⟩) (fun hl hlt Z mZ dZ pZ => ⟨fun h => absurd h (by decide), fun _ => done true _ _ Z mZ dZ pZ (relax (by omega) (r4.mpr (by omega)) bY hl hlt) _ _ (or1 ch)⟩)
          have y29 : (W.1 29 a).toInt = hA T a := by rw [mW.2 29 (by decide) (by decide) (by decide)]; rfl
          have y31 : (W.1 31 a).toInt = xA T a := by rw [mW.2 31 (by decide) (by decide) (by decide)]; rfl
          obtain ⟨r1, r2, r3, r4⟩ := ev_0 T a
          rw [i_le, y29, y31]
          unfold X1_measure_b97
          refine ⟨hva, hva, fun g => second ch d2 par2 W mW dW pW (bf_skip (by omega) bW (fun hr => absurd (r4.mp hr) (by omega))) _ _ (by rw [ey]; exact or0 ch), fun g => ?_⟩
          refine x1_comesNearer (e := 2 * a) hN mW dW pW (lim (by omega) bW) hal (Or.inl ⟨rfl, rfl⟩) (fun hc => ⟨fun _ => second ch d2 par2 W mW dW pW (bf_skip (by omega) bW (fun _ => hc)) _ _ (by rw [ey]; exact or0 ch), fun h => absurd rfl h⟩) (fun hl hlt Z mZ dZ pZ => ⟨fun h => absurd h (by decide), fun _ => second true _ _ Z mZ dZ pZ (relax (by omega) (r4.mpr (by omega)) bW hl hlt) _ _ (by rw [ey]; exact or1 ch)⟩)
    · dsimp only
      split
      · right; omega
      · exact Or.inl rfl
    · by_cases g : nA T v < 0
      · rw [if_pos g]; exact Or.inr ⟨g, rfl⟩
      · rw [if_neg g]; exact Or.inl rfl
  · have hlt := up_on (n := 9) (by omega) hi z
    have hvi : vp_in (nI i) 9 := vp_in_nI (by omega) (by omega)
    have fin : ∀ t0 : Int32, t0.toInt = (if nA T i < 0 then 0 else 1000000000) → X1_measure_b28 (nI i) t0 (nI i) U Q k := by
      intro t0 ht
      unfold X1_measure_b28
      rw [nI_clamp (by omega)]
      refine ⟨hvi, fun U1 e1 => ⟨hvi, fun U2 e2 w ew => ?_⟩⟩
      rw [nI_1] at ew
      subst ew
      refine hk2 hlt U2 ⟨by rw [e2, e1]; exact (mU.u (Or.inl rfl)).u (Or.inr (Or.inl rfl)), fun v hv => ?_⟩
      have c34 : U2.1 34 v = if v = i then t0 else U.1 34 v := by
        rw [e2, zu_ne (by decide), e1, zu_at]
        by_cases w : v = i <;> simp [w]
      have c35 : U2.1 35 v = if v = i then -1 else U.1 35 v := by
        rw [e2, zu_at, e1, zu_ne (by decide)]
        by_cases w : v = i <;> simp [w]
      rw [c34, c35]
      by_cases w : v = i
      · rw [if_pos w, if_pos w, w]; exact ⟨ht, rfl⟩
      · rw [if_neg w, if_neg w]; exact bU v (by omega)
    have e33 : (U.1 33 i).toInt = nA T i := by rw [mU.2 33 (by decide) (by decide) (by decide)]; rfl
    rw [nI_clamp (by omega), i_le, c0, e33]
    exact ⟨hvi, fun g => fin _ (by rw [if_neg (by omega)]; exact cF), fun g => fin _ (by rw [if_pos (by omega)]; exact c0)⟩
