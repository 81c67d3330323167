/-! whether every need can be met -/
def pot (T : ZS) (m : Nat) : Prop := ∃ π : Nat → Int, ∀ e, e < 2 * m → rE T e → π (hdE T e) ≤ π (tlE T e) + wE T e
theorem pot_0 {T : ZS} {m : Nat} (h : ∀ a, a < m → p0 T a) : pot T m := by
  refine ⟨fun _ => 0, fun e he hr => ?_⟩
  have g := h (e / 2) (by omega)
  unfold p0 at g
  unfold rE at hr
  show (0 : Int) ≤ 0 + wE T e
  unfold wE
  by_cases w : e % 2 = 0
  · rw [if_pos w] at hr ⊢
    have := g.1 hr
    omega
  · rw [if_neg w] at hr ⊢
    have := g.2 hr
    omega
theorem max_ex (f : Nat → Int) (n : Nat) : ∃ K, ∀ e, e < n → f e ≤ K := by
  induction n with
  | zero => exact ⟨0, fun e he => by omega⟩
  | succ n ih =>
    obtain ⟨K, hK⟩ := ih
    refine ⟨if K < f n then f n else K, fun e he => ?_⟩
    by_cases w : e = n
    · rw [w]; split <;> omega
    · have := hK e (by omega)
      split <;> omega
theorem pot_push {T V : ZS} {m : Nat} {b d : Nat → Int} {par : Nat → Nat} (hN : net T m b) (hB : ∀ v, v < 9 → d v = 1000000000 ∨ (-400000000 ≤ d v ∧ d v ≤ 400000000)) (hC : bfC 9 (2 * m) (tlE T) (hdE T) (wE T) (rE T) (srcN T) 1000000000 d par) (hp : pot T m) (hX : zXc T V) (hA' : ∀ a, a < m → V.1 31 a = T.1 31 a ∨ (d (uA T a) = d (dA T a) + wA T a ∧ d (uA T a) < 1000000000 ∧ d (dA T a) < 1000000000)) : pot V m := by
  obtain ⟨π, hπ⟩ := hp
  obtain ⟨τ, h1, h2, h3⟩ := hC
  obtain ⟨K, hK⟩ := max_ex (fun e => d (hdE T e) - π (tlE T e) - wE T e) (2 * m)
  have eu : uA V = uA T := by funext a; unfold uA; rw [hX.2 26 (by decide) (by decide) (by decide) (by decide) (by decide)]
  have ed : dA V = dA T := by funext a; unfold dA; rw [hX.2 27 (by decide) (by decide) (by decide) (by decide) (by decide)]
  have el : lA V = lA T := by funext a; unfold lA; rw [hX.2 28 (by decide) (by decide) (by decide) (by decide) (by decide)]
  have eh : hA V = hA T := by funext a; unfold hA; rw [hX.2 29 (by decide) (by decide) (by decide) (by decide) (by decide)]
  have ew : wA V = wA T := by funext a; unfold wA; rw [hX.2 32 (by decide) (by decide) (by decide) (by decide) (by decide)]
  have et : tlE V = tlE T := by funext e; unfold tlE; rw [eu, ed]
  have ehd : hdE V = hdE T := by funext e; unfold hdE; rw [eu, ed]
  have ewE : wE V = wE T := by funext e; unfold wE; rw [ew]
  refine ⟨fun v => if d v < 1000000000 then d v else π v + K, fun e he hr => ?_⟩
  dsimp only
  rw [et, ehd, ewE]
  have en := edge_nd hN he
  rcases hA' (e / 2) (by omega) with g | g
  · have hr' : rE T e := by
      unfold rE at hr ⊢
      rw [eh, el] at hr
      have ex : xA V (e / 2) = xA T (e / 2) := by unfold xA; rw [g]
      rw [ex] at hr
      exact hr
    by_cases w : d (tlE T e) < 1000000000
    · have hc := h2 e he hr' w
      have bt := (hB _ en.1).elim (fun h => by omega) id
      rw [if_pos w, if_pos (by omega)]
      exact hc
    · rw [if_neg w]
      by_cases w2 : d (hdE T e) < 1000000000
      · rw [if_pos w2]
        have := hK e he
        omega
      · rw [if_neg w2]
        have := hπ e he hr'
        omega
  · unfold hdE tlE wE
    by_cases w : e % 2 = 0
    · rw [if_pos w, if_pos w, if_pos w, if_pos g.2.1, if_pos g.2.2]; omega
    · rw [if_neg w, if_neg w, if_neg w, if_pos g.2.1, if_pos g.2.2]; omega
/-- sums over the nodes -/
theorem sI_pick {x : Int} {u n : Nat} (hu : u < n) : sI (fun v => if u = v then x else 0) n = x := by
  have h := sI_upd (f := fun _ => 0) (g := fun v => if u = v then x else 0) (n := n) hu (fun v _ hv => if_neg (Ne.symm hv))
  rw [h, sI_0]
  simp
theorem sI_sub (g h : Nat → Int) (n : Nat) : sI (fun r => g r - h r) n = sI g n - sI h n := by
  induction n with
  | zero => simp [sI]
  | succ n ih => rw [sI_s, sI_s, sI_s, ih]; omega
theorem infl_sum {u d : Nat → Nat} {x : Nat → Int} {m n : Nat} (h : ∀ a, a < m → u a < n ∧ d a < n) : sI (fun v => infl u d x m v) n = 0 := by
  induction m with
  | zero => exact sI_0 n
  | succ m ih =>
    have e : (fun v => infl u d x (m + 1) v) = fun v => infl u d x m v + ((if u m = v then x m else 0) - (if d m = v then x m else 0)) := by
      funext v; exact infl_s u d x m v
    rw [e, sI_add, ih (fun a ha => h a (by omega)), sI_sub, sI_pick (h m (by omega)).1, sI_pick (h m (by omega)).2]
    omega
/-- the same over a set of nodes -/
theorem infl_set {u d : Nat → Nat} {x : Nat → Int} {m n : Nat} {Z : Nat → Bool} (h : ∀ a, a < m → u a < n ∧ d a < n) : sI (fun v => if Z v = true then infl u d x m v else 0) n = sI (fun a => (if Z (u a) = true then x a else 0) - (if Z (d a) = true then x a else 0)) m := by
  induction m with
  | zero =>
    have e : (fun v => if Z v = true then infl u d x 0 v else 0) = fun _ => 0 := by
      funext v; split <;> rfl
    rw [e]; exact sI_0 n
  | succ m ih =>
    have e : (fun v => if Z v = true then infl u d x (m + 1) v else 0) = fun v => (if Z v = true then infl u d x m v else 0) + ((if u m = v then (if Z (u m) = true then x m else 0) else 0) - (if d m = v then (if Z (d m) = true then x m else 0) else 0)) := by
      funext v
      rw [infl_s]
      by_cases w : Z v = true
      · rw [if_pos w, if_pos w]
        have e1 : (if u m = v then (if Z (u m) = true then x m else 0) else 0) = if u m = v then x m else 0 := by
          by_cases g : u m = v
          · rw [if_pos g, if_pos g, g, if_pos w]
          · rw [if_neg g, if_neg g]
        have e2 : (if d m = v then (if Z (d m) = true then x m else 0) else 0) = if d m = v then x m else 0 := by
          by_cases g : d m = v
          · rw [if_pos g, if_pos g, g, if_pos w]
          · rw [if_neg g, if_neg g]
        rw [e1, e2]
      · rw [if_neg w, if_neg w]
        have e1 : (if u m = v then (if Z (u m) = true then x m else 0) else 0) = 0 := by
          by_cases g : u m = v
          · rw [if_pos g, g, if_neg w]
          · rw [if_neg g]
        have e2 : (if d m = v then (if Z (d m) = true then x m else 0) else 0) = 0 := by
          by_cases g : d m = v
          · rw [if_pos g, g, if_neg w]
          · rw [if_neg g]
        rw [e1, e2]
        omega
    have e3 : sI (fun v => (if u m = v then (if Z (u m) = true then x m else 0) else 0) - (if d m = v then (if Z (d m) = true then x m else 0) else 0)) n = (if Z (u m) = true then x m else 0) - (if Z (d m) = true then x m else 0) := by
      rw [sI_sub, sI_pick (h m (by omega)).1, sI_pick (h m (by omega)).2]
    rw [e, sI_add, ih (fun a ha => h a (by omega)), e3, sI_s]
theorem phi_x {x : Int} {a b : Bool} : phi x x a b = -((if a = true then x else 0) - (if b = true then x else 0)) := by
  unfold phi
  cases a <;> cases b <;> simp
/-- the room of a set, by needs -/
theorem gS_need {T : ZS} {m : Nat} {b : Nat → Int} {Z : Nat → Bool} (hN : net T m b) : gS b 9 m (uA T) (dA T) (xA T) (xA T) Z = sI (fun v => if Z v = true then nA T v else 0) 9 := by
  have hud : ∀ a, a < m → uA T a < 9 ∧ dA T a < 9 := fun a ha => by have := hN.2.2.1 a ha; unfold arcOK at this; omega
  have e1 : sI (fun v => if Z v = true then nA T v else 0) 9 = sI (fun v => if Z v = true then b v else 0) 9 - sI (fun v => if Z v = true then infl (uA T) (dA T) (xA T) m v else 0) 9 := by
    rw [← sI_sub]
    refine sI_congr (fun v hv => ?_)
    split
    · exact hN.2.2.2.1 v (by omega)
    · omega
  rw [e1, infl_set hud]
  unfold gS
  have e2 : sI (fun c => phi (xA T c) (xA T c) (Z (uA T c)) (Z (dA T c))) m = -sI (fun a => (if Z (uA T a) = true then xA T a else 0) - (if Z (dA T a) = true then xA T a else 0)) m := by
    rw [← sI_neg]
    exact sI_congr (fun a _ => phi_x)
  rw [e2]
  omega
/-- needs: nothing is lost -/
def nsum (T : ZS) : Prop := sI (nA T) 9 = 0
def pS9 (T : ZS) : Int := sI (fun v => if 0 < nA T v then nA T v else 0) 9
theorem pS9_0 (T : ZS) : 0 ≤ pS9 T := by
  have h := sI_mono (f := fun _ => 0) (g := fun v => if 0 < nA T v then nA T v else 0) (n := 9) (fun v _ => by split <;> omega)
  rw [sI_0] at h
  exact h
theorem push_sums {T V : ZS} {v0 s0 : Nat} {δ : Int} (hv : v0 < 9) (hs : s0 < 9) (hne : s0 ≠ v0) (hδ : 1 ≤ δ) (h1 : nA V v0 = nA T v0 - δ) (h2 : 0 ≤ nA V v0) (h3 : nA V s0 = nA T s0 + δ) (h4 : nA V s0 ≤ 0) (h5 : ∀ v, v < 9 → v ≠ v0 → v ≠ s0 → nA V v = nA T v) : (nsum T → nsum V) ∧ pS9 V + 1 ≤ pS9 T := by
  have e1 := sI_upd (f := nA T) (g := fup (nA T) v0 (nA V v0)) (n := 9) hv (fun x _ hx => fup_n _ _ hx)
  have e2 := sI_upd (f := fup (nA T) v0 (nA V v0)) (g := nA V) (n := 9) hs (fun x hx hne2 => by
    by_cases w : x = v0
    · rw [w, fup_e]
    · rw [fup_n _ _ w]; exact h5 x hx w hne2)
  rw [fup_e] at e1
  rw [fup_n _ _ hne] at e2
  refine ⟨fun h => ?_, ?_⟩
  · unfold nsum at *
    omega
  · have f1 := sI_upd (f := fun v => if 0 < nA T v then nA T v else 0) (g := fun v => if 0 < nA V v then nA V v else 0) (n := 9) hv (fun x hx hne2 => by
      by_cases w : x = s0
      · rw [w, if_neg (by omega), if_neg (by omega)]
      · rw [h5 x hx hne2 w])
    unfold pS9
    rw [f1]
    by_cases w : 0 < nA V v0
    · rw [if_pos w, if_pos (by omega)]; omega
    · rw [if_neg w, if_pos (by omega)]; omega
theorem x1_hasNeed {S : ZS} {Q : Int32 → ZS → Prop} (q1 : (∃ v, v < 9 ∧ nA S v ≠ 0) → Q 1 S) (q0 : (∀ v, v < 9 → nA S v = 0) → Q 0 S) : X1_hasNeed S Q := by
  have c0 : (0 : Int32).toInt = 0 := by decide
  unfold X1_hasNeed
  refine zl_up 9 (fun i T => T = S ∧ ∀ v, v < i → nA S v = 0) (by omega) (fun i T k hi hJ hk => ?_) S ⟨rfl, fun v hv => by omega⟩
  obtain ⟨rfl, hj⟩ := hJ
  show X1_hasNeed_B2 (nI i) T Q k
  unfold X1_hasNeed_B2 X1_hasNeed_b25 X1_hasNeed_b17
  refine ⟨fun z => ?_, fun z => ?_⟩
  · have := up_end (n := 9) (by omega) hi z
    subst this
    exact ⟨Or.inl rfl, q0 hj⟩
  · have hlt := up_on (n := 9) (by omega) hi z
    rw [nI_clamp (by omega), i_eq, c0]
    refine ⟨vp_in_nI (by omega) (by omega), fun g w ew => ?_, fun g => ⟨Or.inr rfl, q1 ⟨i, hlt, g⟩⟩⟩
    rw [nI_1] at ew
    subst ew
    refine hk hlt _ ⟨rfl, fun v hv => ?_⟩
    by_cases e : v = i
    · rw [e]; exact g
    · exact hj v (by omega)
theorem x1_nearestNeed {d : Nat → Int} {S : ZS} {Q : Int32 → ZS → Prop} (hd : ∀ v, v < 9 → (S.1 34 v).toInt = d v) (q0 : (∀ v, v < 9 → 0 < nA S v → 1000000000 ≤ d v) → Q (-1) S) (q1 : ∀ v, v < 9 → 0 < nA S v → d v < 1000000000 → Q (nI v) S) : X1_nearestNeed S Q := by
  have c0 : (0 : Int32).toInt = 0 := by decide
  have cF : (1000000000 : Int32).toInt = 1000000000 := by decide
  unfold X1_nearestNeed
  refine zl_up3 9 (fun i x y T => T = S ∧ ((x = -1 ∧ y.toInt = 1000000000 ∧ ∀ v, v < i → 0 < nA S v → 1000000000 ≤ d v) ∨ ∃ v, v < i ∧ x = nI v ∧ 0 < nA S v ∧ d v < 1000000000 ∧ y.toInt ≤ d v)) (by omega) (fun i x y T k hi hJ hk => ?_) (-1) 1000000000 S ⟨rfl, Or.inl ⟨rfl, cF, fun v hv => by omega⟩⟩
  obtain ⟨rfl, hx⟩ := hJ
  show X1_nearestNeed_B7 x y (nI i) T Q k
  unfold X1_nearestNeed_B7 X1_nearestNeed_b47 X1_nearestNeed_b41
  refine ⟨fun z => ?_, fun z => ?_⟩
  · have := up_end (n := 9) (by omega) hi z
    subst this
    rcases hx with ⟨e, _, h⟩ | ⟨v, a1, e, a2, a3, _⟩
    · rw [e]; exact q0 h
    · rw [e]; exact q1 v a1 a2 a3
  · have hlt := up_on (n := 9) (by omega) hi z
    have hvi : vp_in (nI i) 9 := vp_in_nI (by omega) (by omega)
    have n33 : (T.1 33 i).toInt = nA T i := rfl
    rw [nI_clamp (by omega), i_le, i_le, n33, c0, hd i hlt]
    have keep : (0 < nA T i → y.toInt ≤ d i) → ∀ w : Int32, w = nI i + 1 → k (x, y, w, T) := by
      intro hc w ew
      rw [nI_1] at ew
      subst ew
      refine hk hlt _ _ _ ⟨rfl, ?_⟩
      rcases hx with ⟨e, ey, h⟩ | ⟨v, a1, e, a2, a3, a4⟩
      · refine Or.inl ⟨e, ey, fun v hv hn => ?_⟩
        by_cases w : v = i
        · rw [w] at hn ⊢
          have := hc hn
          omega
        · exact h v (by omega) hn
      · exact Or.inr ⟨v, by omega, e, a2, a3, a4⟩
    refine ⟨hvi, fun g w ew => keep (fun h => by omega) w ew, fun g => ⟨hvi, fun g2 w ew => keep (fun _ => g2) w ew, fun g2 => ⟨hvi, fun y' ey' w ew => ?_⟩⟩⟩
    rw [nI_1] at ew
    subst ew
    refine hk hlt _ _ _ ⟨rfl, Or.inr ⟨i, by omega, rfl, by omega, ?_, ?_⟩⟩
    · rcases hx with ⟨e, ey, h⟩ | ⟨v, a1, e, a2, a3, a4⟩ <;> omega
    · rw [ey', hd i hlt]; omega
/-- balance(): all needs met, or a set of nodes whose room is below 0 -/
theorem x1_balance {m : Nat} {b : Nat → Int} {T : ZS} {Q : Int32 → ZS → Prop} (hN : net T m b) (hp : pot T m) (hs : nsum T) (hP : pS9 T ≤ 999999)
    (q1 : ∀ U, zXc T U → net U m b → pot U m → (∀ v, v < 9 → nA U v = 0) → Q 1 U)
    (q0 : ∀ U Z, zXc T U → gS b 9 m (uA T) (dA T) (lA T) (hA T) Z < 0 → Q 0 U) : X1_balance T Q := by
  unfold X1_balance
  refine zl_up 1000000 (fun i U => zXc T U ∧ net U m b ∧ pot U m ∧ nsum U ∧ pS9 U + i ≤ 999999) (by omega) (fun i U k hi hJ hk2 => ?_) T ⟨⟨rfl, fun _ _ _ _ _ _ => rfl⟩, hN, hp, hs, by omega⟩
  obtain ⟨xU, nU, pU, sU, iU⟩ := hJ
  have p00 := pS9_0 U
  show X1_balance_B2 (nI i) U Q k
  unfold X1_balance_B2 X1_balance_b44 X1_balance_b31 X1_balance_b15
  refine ⟨fun z => ?_, fun z => ?_⟩
  · have := up_endG (n := 1000000) (by omega) hi z
    omega
  · have hlt := up_onG (n := 1000000) (by omega) hi z
    refine x1_hasNeed (fun hne => ⟨fun h => absurd h (by decide), fun _ => ?_⟩) (fun h0 => ⟨fun _ => ⟨Or.inr rfl, q1 U xU nU pU h0⟩, fun h => absurd rfl h⟩)
    obtain ⟨π, hπ⟩ := pU
    refine x1_measure nU hπ (fun V d par mV dV pV hB hC => ?_)
    have nV : nA V = nA U := by funext v; unfold nA; rw [mV.2 33 (by decide) (by decide) (by decide)]
    have xV : zXc T V := ⟨by rw [mV.1]; exact xU.1, fun n a1 a2 a3 a4 a5 => by rw [mV.2 n a3 a4 a5]; exact xU.2 n a1 a2 a3 a4 a5⟩
    refine x1_nearestNeed dV (fun hall => ⟨fun _ => ⟨Or.inl rfl, ?_⟩, fun h => absurd rfl h⟩) (fun v0 hv0 hn0 hd0 => ⟨fun h => absurd h (nI_m1 (by omega)), fun _ => ?_⟩)
    · rw [nV] at hall
      refine q0 V (fun v => decide (d v < 1000000000)) xV ?_
      obtain ⟨τ, h1, h2, h3⟩ := hC
      -- room by needs
      have gE : gS b 9 m (uA U) (dA U) (lA U) (hA U) (fun v => decide (d v < 1000000000)) = gS b 9 m (uA U) (dA U) (xA U) (xA U) (fun v => decide (d v < 1000000000)) := by
        unfold gS
        congr 1
        refine sI_congr (fun a ha => ?_)
        have ok := nU.2.2.1 a ha
        have n8 : uA U a < 9 ∧ dA U a < 9 := by unfold arcOK at ok; omega
        have lx : lA U a ≤ xA U a ∧ xA U a ≤ hA U a := ⟨ok.2.2.2.2.2.1, ok.2.2.2.2.2.2.1⟩
        have wb : -1100000 ≤ wA U a ∧ wA U a ≤ 1100000 := ⟨ok.2.2.2.2.2.2.2.2.1, ok.2.2.2.2.2.2.2.2.2⟩
        unfold phi
        by_cases zu : d (uA U a) < 1000000000 <;> by_cases zd : d (dA U a) < 1000000000
        · simp [zu, zd]
        · -- up in, down out: nothing above low
          have : ¬ lA U a < xA U a := fun w => by
            obtain ⟨t1, t2, t3, t4⟩ := ev_1 U a
            have hc := h2 (2 * a + 1) (by omega) (t4.mpr w) (by rw [t1]; exact zu)
            rw [t1, t2, t3] at hc
            have bt := (hB _ n8.1).elim (fun h => by omega) id
            omega
          have e : lA U a = xA U a := by omega
          simp [zu, zd, e]
        · have : ¬ xA U a < hA U a := fun w => by
            obtain ⟨t1, t2, t3, t4⟩ := ev_0 U a
            have hc := h2 (2 * a) (by omega) (t4.mpr w) (by rw [t1]; exact zd)
            rw [t1, t2, t3] at hc
            have bt := (hB _ n8.2).elim (fun h => by omega) id
            omega
          have e : hA U a = xA U a := by omega
          simp [zu, zd, e]
        · simp [zu, zd]
      have eu : uA U = uA T := by funext a; unfold uA; rw [xU.2 26 (by decide) (by decide) (by decide) (by decide) (by decide)]
      have ed : dA U = dA T := by funext a; unfold dA; rw [xU.2 27 (by decide) (by decide) (by decide) (by decide) (by decide)]
      have el : lA U = lA T := by funext a; unfold lA; rw [xU.2 28 (by decide) (by decide) (by decide) (by decide) (by decide)]
      have eh : hA U = hA T := by funext a; unfold hA; rw [xU.2 29 (by decide) (by decide) (by decide) (by decide) (by decide)]
      rw [← eu, ← ed, ← el, ← eh, gE, gS_need nU]
      -- some need is below 0, and those above 0 are not reached
      have neg : ∃ v, v < 9 ∧ nA U v < 0 := by
        refine Classical.byContradiction (fun w => ?_)
        obtain ⟨v, hv, hvn⟩ := hne
        have ge : ∀ x, x < 9 → 0 ≤ nA U x := fun x hx => by
          refine Classical.byContradiction (fun w2 => w ⟨x, hx, by omega⟩)
        have e := sI_upd (f := fun _ => 0) (g := fup (fun _ => 0) v (nA U v)) (n := 9) hv (fun x _ hx => fup_n _ _ hx)
        rw [fup_e, sI_0] at e
        have mo := sI_mono (f := fup (fun _ => 0) v (nA U v)) (g := nA U) (n := 9) (fun x hx => by
          by_cases w3 : x = v
          · rw [w3, fup_e]; exact Int.le_refl _
          · rw [fup_n _ _ w3]; exact ge x hx)
        have := ge v hv
        unfold nsum at sU
        omega
      obtain ⟨v, hv, hvn⟩ := neg
      have rv : d v < 1000000000 := h3 v hv hvn
      have e := sI_upd (f := fun _ => 0) (g := fup (fun _ => 0) v (nA U v)) (n := 9) hv (fun x _ hx => fup_n _ _ hx)
      rw [fup_e, sI_0] at e
      have mo := sI_mono (f := fun v => if decide (d v < 1000000000) = true then nA U v else 0) (g := fup (fun _ => 0) v (nA U v)) (n := 9) (fun x hx => by
        by_cases w3 : x = v
        · rw [w3, fup_e, if_pos (decide_eq_true rv)]; exact Int.le_refl _
        · rw [fup_n _ _ w3]
          by_cases w4 : d x < 1000000000
          · rw [if_pos (decide_eq_true w4)]
            refine Classical.byContradiction (fun w5 => ?_)
            have := hall x hx (by omega)
            omega
          · rw [if_neg (by rw [decide_eq_true_eq]; exact w4)]; exact Int.le_refl _)
      omega
    · rw [nV] at hn0
      refine x1_pushTo nU mV pV hC hv0 hn0 hd0 (fun W s0 δ xW nW aW hs0 hne0 hδ g1 g2 g3 g4 g5 w ew => ?_)
      rw [nI_1] at ew
      subst ew
      obtain ⟨ps1, ps2⟩ := push_sums hv0 hs0 hne0 hδ g1 g2 g3 g4 g5
      refine hk2 hlt W ⟨⟨by rw [xW.1]; exact xU.1, fun n a1 a2 a3 a4 a5 => by rw [xW.2 n a1 a2 a3 a4 a5]; exact xU.2 n a1 a2 a3 a4 a5⟩, nW, pot_push nU hB hC ⟨π, hπ⟩ xW aW, ps1 sU, by omega⟩
