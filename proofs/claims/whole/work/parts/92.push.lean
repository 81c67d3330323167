/-! the class's push along a way -/
def itr (f : Nat → Nat) : Nat → Nat → Nat
  | 0, v => v
  | n + 1, v => itr f n (f v)
theorem itr_s (f : Nat → Nat) (n v : Nat) : itr f (n + 1) v = f (itr f n v) := by
  induction n generalizing v with
  | zero => rfl
  | succ n ih => exact ih (f v)
theorem path_ex {E : Nat} {tl hd : Nat → Nat} {w : Nat → Int} {res src : Nat → Prop} {F : Int} {d : Nat → Int} {par : Nat → Nat} (hC : bfC 9 E tl hd w res src F d par) (hn : ∀ e, e < E → tl e < 9) {v0 : Nat} (hv : v0 < 9) (hd0 : d v0 < F) :
    ∃ (L : Nat) (p : Nat → Nat), p 0 = v0 ∧ (∀ j, j < L → par (p j) < E ∧ p (j + 1) = tl (par (p j))) ∧ (∀ j, j ≤ L → p j < 9 ∧ d (p j) < F) ∧ E ≤ par (p L) ∧ L ≤ 8 ∧ (∀ i j, i ≤ L → j ≤ L → p i = p j → i = j) ∧ src (p L) := by
  obtain ⟨τ, h1, h2, h3⟩ := hC
  have len : ∀ N v, v < 9 → d v < F → τ v ≤ N → ∃ L, (∀ j, j < L → par (itr (fun v => tl (par v)) j v) < E) ∧ E ≤ par (itr (fun v => tl (par v)) L v) := by
    intro N
    induction N with
    | zero =>
      intro v hv hd hτ
      by_cases g : par v < E
      · have := ((h1 v hv).1 g).2.2.2.2.2
        omega
      · exact ⟨0, fun j hj => by omega, Nat.le_of_not_lt g⟩
    | succ N ih =>
      intro v hv hd hτ
      by_cases g : par v < E
      · obtain ⟨c1, c2, c3, c4, c5, c6⟩ := (h1 v hv).1 g
        obtain ⟨L, l1, l2⟩ := ih (tl (par v)) (hn _ g) c3 (by omega)
        refine ⟨L + 1, fun j hj => ?_, l2⟩
        cases j with
        | zero => exact g
        | succ j => exact l1 j (by omega)
      · exact ⟨0, fun j hj => by omega, Nat.le_of_not_lt g⟩
  obtain ⟨L, l1, l2⟩ := len (τ v0) v0 hv hd0 (Nat.le_refl _)
  have nx : ∀ j, itr (fun v => tl (par v)) (j + 1) v0 = tl (par (itr (fun v => tl (par v)) j v0)) := fun j => itr_s _ j v0
  have inn : ∀ j, j ≤ L → itr (fun v => tl (par v)) j v0 < 9 ∧ d (itr (fun v => tl (par v)) j v0) < F := by
    intro j
    induction j with
    | zero => intro _; exact ⟨hv, hd0⟩
    | succ j ih =>
      intro hj
      have g := l1 j (by omega)
      rw [nx]
      exact ⟨hn _ g, ((h1 _ (ih (by omega)).1).1 g).2.2.1⟩
  have dec : ∀ j, j < L → τ (itr (fun v => tl (par v)) (j + 1) v0) < τ (itr (fun v => tl (par v)) j v0) := fun j hj => by
    rw [nx]
    exact ((h1 _ (inn j (by omega)).1).1 (l1 j hj)).2.2.2.2.2
  have dec2 : ∀ i k, i + k + 1 ≤ L → τ (itr (fun v => tl (par v)) (i + k + 1) v0) < τ (itr (fun v => tl (par v)) i v0) := by
    intro i k
    induction k with
    | zero => intro h; exact dec i (by omega)
    | succ k ih =>
      intro h
      have a := ih (by omega)
      have b := dec (i + k + 1) (by omega)
      have e : i + (k + 1) + 1 = i + k + 1 + 1 := by omega
      rw [e]
      omega
  have inj : ∀ i j, i ≤ L → j ≤ L → itr (fun v => tl (par v)) i v0 = itr (fun v => tl (par v)) j v0 → i = j := by
    intro i j hi hj e
    rcases Nat.lt_trichotomy i j with g | g | g
    · have := dec2 i (j - i - 1) (by omega)
      rw [show i + (j - i - 1) + 1 = j by omega, e] at this
      omega
    · exact g
    · have := dec2 j (i - j - 1) (by omega)
      rw [show j + (i - j - 1) + 1 = i by omega, e] at this
      omega
  have hL : L + 1 ≤ 9 := by
    refine pigeon 9 (L + 1) (fun x => if h : ∃ j, j ≤ L ∧ itr (fun v => tl (par v)) j v0 = x then Classical.choose h else 0) (fun j hj => ⟨itr (fun v => tl (par v)) j v0, (inn j (by omega)).1, ?_⟩)
    have hex : ∃ i, i ≤ L ∧ itr (fun v => tl (par v)) i v0 = itr (fun v => tl (par v)) j v0 := ⟨j, by omega, rfl⟩
    show (if h : ∃ i, i ≤ L ∧ itr (fun v => tl (par v)) i v0 = itr (fun v => tl (par v)) j v0 then Classical.choose h else 0) = j
    rw [dif_pos hex]
    have sp := Classical.choose_spec hex
    exact inj _ _ sp.1 (by omega) sp.2
  refine ⟨L, fun j => itr (fun v => tl (par v)) j v0, rfl, fun j hj => ⟨l1 j hj, nx j⟩, inn, l2, by omega, inj, ?_⟩
  rcases (h1 _ (inn L (Nat.le_refl _)).1).2 l2 with g | g
  · have := (inn L (Nat.le_refl _)).2
    omega
  · exact g.1
/-- the room on an edge -/
def spE (T : ZS) (e : Nat) : Int := if e % 2 = 0 then hA T (e / 2) - xA T (e / 2) else xA T (e / 2) - lA T (e / 2)
theorem x1_nodeBefore {m v : Nat} {b : Nat → Int} {par : Nat → Nat} {T U : ZS} {Q : Int32 → ZS → Prop} (hN : net T m b) (h26 : U.1 26 = T.1 26) (h27 : U.1 27 = T.1 27) (hp : parR U m par) (hv : v < 9) (hpv : par v < 2 * m) (q : Q (nI (tlE T (par v))) U) : X1_nodeBefore (nI v) U Q := by
  have h18 := hN.1
  have hvv : vp_in (nI v) 9 := vp_in_nI (by omega) (by omega)
  rcases hp v hv with ⟨_, g⟩ | ⟨a, ha, e35, hor⟩
  · omega
  · have hva : vp_in (nI a) 18 := vp_in_nI (by omega) (by omega)
    have ok := hN.2.2.1 a ha
    unfold X1_nodeBefore X1_nodeBefore_b31
    rw [nI_clamp (by omega), e35]
    refine ⟨hvv, fun x ex => ?_⟩
    subst ex
    rw [nI_clamp (by omega), h26, h27, ok.2.2.1, ok.2.2.2.1]
    rcases hor with ⟨e36, ep⟩ | ⟨e36, ep⟩
    · rw [ep, (ev_0 T a).1] at q
      exact ⟨hvv, fun h => absurd (e36.symm.trans h) (by decide), fun _ => ⟨hva, q⟩⟩
    · rw [ep, (ev_1 T a).1] at q
      exact ⟨hvv, fun _ => ⟨hva, q⟩, fun h => absurd e36 h⟩
/-- all but amounts, needs and distances stays -/
def zXc (T U : ZS) : Prop := U.2 = T.2 ∧ ∀ n, n ≠ 31 → n ≠ 33 → n ≠ 34 → n ≠ 35 → n ≠ 36 → U.1 n = T.1 n
theorem infl_bump {u d : Nat → Nat} {x y : Nat → Int} {m a v : Nat} (ha : a < m) (h : ∀ k, k < m → k ≠ a → y k = x k) : infl u d y m v = infl u d x m v + ((if u a = v then y a - x a else 0) - (if d a = v then y a - x a else 0)) := by
  have e := sI_upd (f := fun k => (if u k = v then x k else 0) - (if d k = v then x k else 0)) (g := fun k => (if u k = v then y k else 0) - (if d k = v then y k else 0)) ha (fun k hk hne => by rw [h k hk hne])
  unfold infl
  rw [e]
  split <;> split <;> omega
theorem x1_pushTo {m v0 : Nat} {b d : Nat → Int} {par : Nat → Nat} {T U : ZS} {Q : ZS → Prop} (hN : net T m b) (hM : zM T U) (hp : parR U m par) (hC : bfC 9 (2 * m) (tlE T) (hdE T) (wE T) (rE T) (srcN T) 1000000000 d par) (hv0 : v0 < 9) (hneed : 0 < nA T v0) (hd0 : d v0 < 1000000000)
    (q : ∀ V s0 δ, zXc T V → net V m b → (∀ a, a < m → V.1 31 a = T.1 31 a ∨ (d (uA T a) = d (dA T a) + wA T a ∧ d (uA T a) < 1000000000 ∧ d (dA T a) < 1000000000)) → s0 < 9 → s0 ≠ v0 → 1 ≤ δ → nA V v0 = nA T v0 - δ → 0 ≤ nA V v0 → nA V s0 = nA T s0 + δ → nA V s0 ≤ 0 → (∀ v, v < 9 → v ≠ v0 → v ≠ s0 → nA V v = nA T v) → Q V) : X1_pushTo (nI v0) U Q := by
  have h18 := hN.1
  obtain ⟨L, p, p0', pn, pin, pL, hL, pinj, psrc⟩ := path_ex hC (fun e he => (edge_nd hN he).1) hv0 hd0
  have tight : ∀ v, v < 9 → par v < 2 * m → rE T (par v) ∧ hdE T (par v) = v ∧ d (tlE T (par v)) < 1000000000 ∧ d v < 1000000000 ∧ d v = d (tlE T (par v)) + wE T (par v) := fun v hv g => by
    obtain ⟨τ, h1, h2, h3⟩ := hC
    obtain ⟨c1, c2, c3, c4, c5, c6⟩ := (h1 v hv).1 g
    exact ⟨c1, c2, c3, c4, c5⟩
  have u26 : U.1 26 = T.1 26 := hM.2 26 (by decide) (by decide) (by decide)
  have u27 : U.1 27 = T.1 27 := hM.2 27 (by decide) (by decide) (by decide)
  have u28 : U.1 28 = T.1 28 := hM.2 28 (by decide) (by decide) (by decide)
  have u29 : U.1 29 = T.1 29 := hM.2 29 (by decide) (by decide) (by decide)
  have u31 : U.1 31 = T.1 31 := hM.2 31 (by decide) (by decide) (by decide)
  have u33 : U.1 33 = T.1 33 := hM.2 33 (by decide) (by decide) (by decide)
  have hsrc : nA T (p L) < 0 := psrc
  have pL9 := (pin L (Nat.le_refl _)).1
  have hne : p L ≠ v0 := fun e => by rw [e] at hsrc; omega
  -- arcs of the way are different ones
  have arcne : ∀ i j, i < L → j < L → i ≠ j → par (p i) / 2 ≠ par (p j) / 2 := by
    intro i j hi hj hij e
    have gi := (pn i hi).1
    have gj := (pn j hj).1
    have ti := tight _ (pin i (by omega)).1 gi
    have tj := tight _ (pin j (by omega)).1 gj
    by_cases e2 : par (p i) = par (p j)
    · have := pinj i j (by omega) (by omega) (by rw [← ti.2.1, ← tj.2.1, e2])
      exact hij this
    · -- one up, one down: each one's tail is the other's head
      have sw : tlE T (par (p i)) = hdE T (par (p j)) ∧ tlE T (par (p j)) = hdE T (par (p i)) := by
        unfold tlE hdE
        rw [e]
        by_cases g : par (p i) % 2 = 0
        · have g2 : ¬ par (p j) % 2 = 0 := fun w => e2 (by omega)
          rw [if_pos g, if_neg g2, if_neg g2, if_pos g]
          exact ⟨rfl, rfl⟩
        · have g2 : par (p j) % 2 = 0 := by
            rcases Nat.mod_two_eq_zero_or_one (par (p j)) with w | w
            · exact w
            · exact absurd (by omega) e2
          rw [if_neg g, if_pos g2, if_pos g2, if_neg g]
          exact ⟨rfl, rfl⟩
      have a1 : p (i + 1) = p j := by rw [(pn i hi).2, sw.1, tj.2.1]
      have a2 : p (j + 1) = p i := by rw [(pn j hj).2, sw.2, ti.2.1]
      have b1 := pinj (i + 1) j (by omega) (by omega) a1
      have b2 := pinj (j + 1) i (by omega) (by omega) a2
      omega
  have nb := fun v (hv : v ≤ 8) => hN.nb hv
  -- the third loop: amounts along the way
  have third : ∀ (δ : Int32) (V0 : ZS), 1 ≤ δ.toInt → (∀ j, j < L → δ.toInt ≤ spE T (par (p j))) → δ.toInt ≤ 40000000 → (∀ n, n ≠ 33 → V0.1 n = U.1 n) → V0.2 = U.2 → (∀ v, v < 9 → nA V0 v = nA T v - (if v = v0 then δ.toInt else 0) + (if v = p L then δ.toInt else 0)) → δ.toInt ≤ nA T v0 → δ.toInt ≤ -nA T (p L) → zl (X1_pushTo_L137 δ Q) (nI v0, (0 : Int32), V0) := by
    intro δ V0 hδ hsp hδ2 hV0 hV02 hneeds hδ3 hδ4
    refine zl_up2 9 (fun i x V => i ≤ L ∧ x = nI (p i) ∧ V.2 = U.2 ∧ (∀ n, n ≠ 31 → V.1 n = V0.1 n) ∧ (∀ a, a < m → (∀ j, j < i → par (p j) / 2 ≠ a) → V.1 31 a = T.1 31 a) ∧ (∀ a, a < m → lA T a ≤ xA V a ∧ xA V a ≤ hA T a) ∧ ∀ v, v < 9 → infl (uA T) (dA T) (xA V) m v = infl (uA T) (dA T) (xA T) m v + (if v = v0 then δ.toInt else 0) - (if v = p i then δ.toInt else 0)) (by omega) (fun i x V k hi hJ hk => ?_) (nI v0) V0 ⟨by omega, by rw [p0'], hV02, fun n _ => rfl, fun a ha _ => by rw [hV0 31 (by decide), u31], fun a ha => ?_, fun v hv => ?_⟩
    · obtain ⟨hiL, rfl, v2, vn, vun, vb, vi⟩ := hJ
      have o35 : V.1 35 = U.1 35 := by rw [vn 35 (by decide), hV0 35 (by decide)]
      have o36 : V.1 36 = U.1 36 := by rw [vn 36 (by decide), hV0 36 (by decide)]
      have pV : parR V m par := fun v hv => by rw [o35, o36]; exact hp v hv
      have pi9 := (pin i hiL).1
      have hvp : vp_in (nI (p i)) 9 := vp_in_nI (by omega) (by omega)
      have out : i = L → Q V := by
        intro e
        subst e
        have xV : zXc T V := ⟨by rw [v2]; exact hM.1, fun n a1 a2 a3 a4 a5 => by rw [vn n a1, hV0 n a2]; exact hM.2 n a3 a4 a5⟩
        have nV : ∀ v, v < 9 → nA V v = nA T v - (if v = v0 then δ.toInt else 0) + (if v = p i then δ.toInt else 0) := fun v hv => by
          have : nA V v = nA V0 v := by unfold nA; rw [vn 33 (by decide)]
          rw [this]; exact hneeds v hv
        have eu : uA V = uA T := by funext a; unfold uA; rw [xV.2 26 (by decide) (by decide) (by decide) (by decide) (by decide)]
        have ed : dA V = dA T := by funext a; unfold dA; rw [xV.2 27 (by decide) (by decide) (by decide) (by decide) (by decide)]
        refine q V (p i) δ.toInt xV ⟨h18, by rw [xV.2 3 (by decide) (by decide) (by decide) (by decide) (by decide)]; exact hN.2.1, fun a ha => ?_, fun v hv => ?_, hN.2.2.2.2⟩ (fun a ha => ?_) pL9 hne hδ ?_ ?_ ?_ ?_ (fun v hv a1 a2 => ?_)
        · have ok := hN.2.2.1 a ha
          have := vb a ha
          unfold arcOK uA dA lA hA wA at *
          rw [xV.2 26 (by decide) (by decide) (by decide) (by decide) (by decide), xV.2 27 (by decide) (by decide) (by decide) (by decide) (by decide), xV.2 28 (by decide) (by decide) (by decide) (by decide) (by decide), xV.2 29 (by decide) (by decide) (by decide) (by decide) (by decide), xV.2 32 (by decide) (by decide) (by decide) (by decide) (by decide)]
          exact ⟨ok.1, ok.2.1, ok.2.2.1, ok.2.2.2.1, ok.2.2.2.2.1, this.1, this.2, ok.2.2.2.2.2.2.2.1, ok.2.2.2.2.2.2.2.2.1, ok.2.2.2.2.2.2.2.2.2⟩
        · rw [nV v (by omega), eu, ed, vi v (by omega), hN.2.2.2.1 v hv]
          split <;> split <;> omega
        · by_cases g : ∃ j, j < i ∧ par (p j) / 2 = a
          · right
            obtain ⟨j, hj, ej⟩ := g
            have gj := (pn j hj).1
            obtain ⟨t1, t2, t3, t4, t5⟩ := tight _ (pin j (by omega)).1 gj
            have t4' : d (hdE T (par (p j))) < 1000000000 := by rw [t2]; exact t4
            have t5' : d (hdE T (par (p j))) = d (tlE T (par (p j))) + wE T (par (p j)) := by rw [t2]; exact t5
            unfold tlE at t3
            unfold hdE at t4'
            unfold tlE hdE wE at t5'
            rw [ej] at t3 t4' t5'
            by_cases w : par (p j) % 2 = 0
            · rw [if_pos w] at t3
              rw [if_pos w] at t4'
              rw [if_pos w, if_pos w, if_pos w] at t5'
              exact ⟨t5', t4', t3⟩
            · rw [if_neg w] at t3
              rw [if_neg w] at t4'
              rw [if_neg w, if_neg w, if_neg w] at t5'
              exact ⟨by omega, t3, t4'⟩
          · exact Or.inl (vun a ha (fun j hj e => g ⟨j, hj, e⟩))
        · rw [nV v0 hv0, if_pos rfl, if_neg (Ne.symm hne)]; omega
        · rw [nV v0 hv0, if_pos rfl, if_neg (Ne.symm hne)]; omega
        · rw [nV _ pL9, if_neg hne, if_pos rfl]; omega
        · rw [nV _ pL9, if_neg hne, if_pos rfl]; omega
        · rw [nV v hv, if_neg a1, if_neg a2]; omega
      show X1_pushTo_B137 δ (nI (p i)) (nI i) V Q k
      unfold X1_pushTo_B137 X1_pushTo_b195
      rw [nI_clamp (by omega)]
      refine ⟨fun z => ?_, fun z => ⟨hvp, fun g => out ?_, fun g => ?_⟩⟩
      · have := up_end (n := 9) (by omega) hi z
        omega
      · refine Classical.byContradiction (fun w => ?_)
        have gi := (pn i (by omega)).1
        rcases pV _ pi9 with ⟨_, h⟩ | ⟨a, ha, e35, _⟩
        · omega
        · rw [g] at e35; exact nI_m1 (by omega) e35.symm
      · have hil := up_on (n := 9) (by omega) hi z
        have hiL2 : i < L := by
          refine Nat.lt_of_le_of_ne hiL (fun e => ?_)
          subst e
          rcases pV _ pi9 with ⟨h, _⟩ | ⟨a, ha, e35, hor⟩
          · exact g h
          · rcases hor with ⟨_, h⟩ | ⟨_, h⟩ <;> omega
        have gi := (pn i hiL2).1
        rcases pV _ pi9 with ⟨h, _⟩ | ⟨a, ha, e35, hor⟩
        · exact absurd h g
        · have hva : vp_in (nI a) 18 := vp_in_nI (by omega) (by omega)
          have ok := hN.2.2.1 a ha
          have ea : par (p i) / 2 = a := by rcases hor with ⟨_, h⟩ | ⟨_, h⟩ <;> omega
          have una : V.1 31 a = T.1 31 a := vun a ha (fun j hj e => arcne i j hiL2 (by omega) (by omega) (by rw [e, ea]))
          have xa : xA V a = xA T a := by unfold xA; rw [una]
          have sp := hsp i hiL2
          have fin : ∀ t0 : Int32, ((par (p i) = 2 * a ∧ t0 = δ) ∨ (par (p i) = 2 * a + 1 ∧ t0 = -δ)) → X1_pushTo_b181 δ (nI (p i)) (nI i) t0 (V.1 31 a) (nI a) V Q k := by
            intro t0 ht
            have hl := ok.2.2.2.2
            have t0i : t0.toInt = δ.toInt ∨ t0.toInt = -δ.toInt := by
              rcases ht with ⟨_, e⟩ | ⟨_, e⟩
              · rw [e]; exact Or.inl rfl
              · rw [e, i_neg (by omega)]; exact Or.inr rfl
            have vx : (V.1 31 a).toInt = xA T a := xa
            have nx : (V.1 31 a + t0).toInt = xA T a + t0.toInt := by rw [i_add (by rw [vx]; omega) (by rw [vx]; omega), vx]
            unfold X1_pushTo_b181
            refine ⟨hva, fun V1 e1 => ?_⟩
            rw [nI_clamp (by omega)] at e1
            have o1 : ∀ n, n ≠ 31 → V1.1 n = V.1 n := fun n hn => by rw [e1, zu_ne hn]
            have p1 : parR V1 m par := fun v hv => by rw [o1 35 (by decide), o1 36 (by decide)]; exact pV v hv
            have o26 : V1.1 26 = T.1 26 := by rw [o1 26 (by decide), vn 26 (by decide), hV0 26 (by decide), u26]
            have o27 : V1.1 27 = T.1 27 := by rw [o1 27 (by decide), vn 27 (by decide), hV0 27 (by decide), u27]
            have x1a : xA V1 a = xA T a + t0.toInt := by unfold xA; rw [e1, zu_at, if_pos ⟨rfl, rfl⟩]; exact nx
            have x1o : ∀ k, k ≠ a → xA V1 k = xA V k := fun k hk => by unfold xA; rw [e1, zu_at, if_neg (fun z => hk z.2)]
            refine x1_nodeBefore hN o26 o27 p1 pi9 gi (fun w ew => ?_)
            rw [nI_1] at ew
            subst ew
            rw [← (pn i hiL2).2]
            refine hk hil _ _ ⟨by omega, rfl, by rw [e1]; exact v2, fun n hn => by rw [o1 n hn]; exact vn n hn, fun c hc hcu => ?_, fun c hc => ?_, fun v hv => ?_⟩
            · have w : c ≠ a := fun e => hcu i (by omega) (by rw [e]; exact ea)
              rw [e1, zu_at, if_neg (fun z => w z.2)]
              exact vun c hc (fun j hj => hcu j (by omega))
            · by_cases w : c = a
              · rw [w, x1a]
                unfold spE at sp
                rw [ea] at sp
                rcases ht with ⟨h, e⟩ | ⟨h, e⟩
                · rw [if_pos (by omega)] at sp
                  rw [e]; omega
                · rw [if_neg (by omega)] at sp
                  rw [e, i_neg (by omega)]; omega
              · rw [x1o c w]; exact vb c hc
            · rw [infl_bump ha (x := xA V) (y := xA V1) (fun k _ hk => x1o k hk), vi v hv, x1a, xa]
              have ti := tight _ pi9 gi
              rw [(pn i hiL2).2]
              rcases ht with ⟨h, e⟩ | ⟨h, e⟩
              · have hh := ti.2.1
                rw [h] at hh ⊢
                rw [(ev_0 T a).2.1] at hh
                rw [(ev_0 T a).1, e, hh]
                by_cases w1 : p i = v <;> by_cases w2 : dA T a = v
                · rw [if_pos w1, if_pos w2, if_pos w1.symm, if_pos w2.symm]; omega
                · rw [if_pos w1, if_neg w2, if_pos w1.symm, if_neg (Ne.symm w2)]; omega
                · rw [if_neg w1, if_pos w2, if_neg (Ne.symm w1), if_pos w2.symm]; omega
                · rw [if_neg w1, if_neg w2, if_neg (Ne.symm w1), if_neg (Ne.symm w2)]; omega
              · have hh := ti.2.1
                rw [h] at hh ⊢
                rw [(ev_1 T a).2.1] at hh
                rw [(ev_1 T a).1, e, hh, i_neg (by omega)]
                by_cases w1 : p i = v <;> by_cases w2 : uA T a = v
                · rw [if_pos w1, if_pos w2, if_pos w1.symm, if_pos w2.symm]; omega
                · rw [if_pos w1, if_neg w2, if_pos w1.symm, if_neg (Ne.symm w2)]; omega
                · rw [if_neg w1, if_pos w2, if_neg (Ne.symm w1), if_pos w2.symm]; omega
                · rw [if_neg w1, if_neg w2, if_neg (Ne.symm w1), if_neg (Ne.symm w2)]; omega
          rw [e35, nI_clamp (by omega)]
          rcases hor with ⟨e36, ep⟩ | ⟨e36, ep⟩
          · exact ⟨hvp, hva, hvp, fun h => absurd (e36.symm.trans h) (by decide), fun _ => fin _ (Or.inl ⟨ep, rfl⟩)⟩
          · exact ⟨hvp, hva, hvp, fun _ => fin _ (Or.inr ⟨ep, rfl⟩), fun h => absurd e36 h⟩
    · have ok := hN.2.2.1 a ha
      have e : xA V0 a = xA T a := by unfold xA; rw [hV0 31 (by decide), u31]
      rw [e]
      exact ⟨ok.2.2.2.2.2.1, ok.2.2.2.2.2.2.1⟩
    · have e : xA V0 = xA T := by funext a; unfold xA; rw [hV0 31 (by decide), u31]
      rw [e, p0']
      omega
  -- the first loop: how much
  have hvv : vp_in (nI v0) 9 := vp_in_nI (by omega) (by omega)
  unfold X1_pushTo
  rw [nI_clamp (by omega), u33]
  refine ⟨hvv, fun x2 e2 => ?_⟩
  have n0 := nb v0 (by omega)
  have x2i : x2.toInt = nA T v0 := by rw [e2]; rfl
  refine zl_up3 9 (fun i y x3 V => V = U ∧ i ≤ L ∧ x3 = nI (p i) ∧ 1 ≤ y.toInt ∧ y.toInt ≤ nA T v0 ∧ ∀ j, j < i → y.toInt ≤ spE T (par (p j))) (by omega) (fun i y x3 V k hi hJ hk2 => ?_) x2 (nI v0) U ⟨rfl, by omega, by rw [p0'], by omega, by omega, fun j hj => by omega⟩
  obtain ⟨rfl, hiL, rfl, y1, y2, y3⟩ := hJ
  have pi9 := (pin i hiL).1
  have hvp : vp_in (nI (p i)) 9 := vp_in_nI (by omega) (by omega)
  have out : i = L → X1_pushTo_b100 (nI v0) y (nI (p i)) V Q := by
    intro e
    subst e
    have nl := nb (p i) (by omega)
    have en : (-(V.1 33 (p i))).toInt = -nA T (p i) := by rw [u33, i_neg (by unfold nA at nl; omega)]; rfl
    unfold X1_pushTo_b100
    rw [nI_clamp (by omega), nI_clamp (by omega)]
    refine ⟨hvp, fun δ eδ => ⟨hvp, hvp, fun V1 e1 => ⟨hvv, hvv, fun V2 e2 => ?_⟩⟩⟩
    have dd : 1 ≤ δ.toInt ∧ δ.toInt ≤ y.toInt ∧ δ.toInt ≤ -nA T (p i) := by
      by_cases g : -(V.1 33 (p i)) < y
      · rw [if_pos g] at eδ
        rw [i_lt, en] at g
        rw [eδ, en]; omega
      · rw [if_neg g] at eδ
        rw [i_lt, en] at g
        rw [eδ]; omega
    have a1 : ∀ v, (V1.1 33 v).toInt = if v = p i then nA T (p i) + δ.toInt else nA T v := fun v => by
      rw [e1, zu_at, u33]
      by_cases w : v = p i
      · rw [if_pos ⟨rfl, w⟩, if_pos w, i_add (by unfold nA at nl hsrc dd; omega) (by unfold nA at nl hsrc dd; omega)]; rfl
      · rw [if_neg (fun z => w z.2), if_neg w]; rfl
    have a10 : (V1.1 33 v0).toInt = nA T v0 := by rw [a1, if_neg (Ne.symm hne)]
    refine third δ V2 dd.1 (fun j hj => Int.le_trans dd.2.1 (y3 j hj)) (by omega) (fun n hn => by rw [e2, zu_ne hn, e1, zu_ne hn]) (by rw [e2, e1]; rfl) (fun v hv => ?_) (by omega) dd.2.2
    unfold nA
    rw [e2, zu_at]
    by_cases w : v = v0
    · rw [if_pos ⟨rfl, w⟩, i_sub (by rw [a10]; omega) (by rw [a10]; omega), a10, if_pos w, if_neg (by rw [w]; exact Ne.symm hne), w]
      unfold nA; omega
    · rw [if_neg (fun z => w z.2), a1, if_neg w]
      by_cases w2 : v = p i
      · rw [if_pos w2, if_pos w2, w2]; unfold nA; omega
      · rw [if_neg w2, if_neg w2]; unfold nA; omega
  show X1_pushTo_B12 (nI v0) y (nI (p i)) (nI i) V Q k
  unfold X1_pushTo_B12
  rw [nI_clamp (by omega)]
  refine ⟨fun z => ?_, fun z => ⟨hvp, fun g => out ?_, fun g => ⟨hvp, fun x5 e5 => ?_⟩⟩⟩
  · have := up_end (n := 9) (by omega) hi z
    omega
  · refine Classical.byContradiction (fun w => ?_)
    have gi := (pn i (by omega)).1
    rcases hp _ pi9 with ⟨_, h⟩ | ⟨a, ha, e35, _⟩
    · omega
    · rw [g] at e35; exact nI_m1 (by omega) e35.symm
  · have hil := up_on (n := 9) (by omega) hi z
    have hiL2 : i < L := by
      refine Nat.lt_of_le_of_ne hiL (fun e => ?_)
      subst e
      rcases hp _ pi9 with ⟨h, _⟩ | ⟨a, ha, e35, hor⟩
      · exact g h
      · rcases hor with ⟨_, h⟩ | ⟨_, h⟩ <;> omega
    have gi := (pn i hiL2).1
    rcases hp _ pi9 with ⟨h, _⟩ | ⟨a, ha, e35, hor⟩
    · exact absurd h g
    · have hva : vp_in (nI a) 18 := vp_in_nI (by omega) (by omega)
      have ok := hN.2.2.1 a ha
      have lim : -1000 ≤ xA T a ∧ xA T a ≤ 1000000 ∧ lA T a ≤ xA T a ∧ xA T a ≤ hA T a ∧ -1000 ≤ lA T a ∧ hA T a ≤ 1000000 := by
        unfold arcOK at ok; omega
      rw [e35] at e5
      subst e5
      have fin : ∀ t0 : Int32, t0.toInt = spE T (par (p i)) → X1_pushTo_b79 (nI v0) y (nI (p i)) (nI i) t0 V Q k := by
        intro t0 ht
        unfold X1_pushTo_b79
        intro y' ey
        refine x1_nodeBefore hN u26 u27 hp pi9 gi (fun w ew => ?_)
        rw [nI_1] at ew
        subst ew
        rw [← (pn i hiL2).2]
        have pos : 1 ≤ spE T (par (p i)) := by
          have hr := (tight _ pi9 gi).1
          unfold rE at hr
          unfold spE
          by_cases w : par (p i) % 2 = 0
          · rw [if_pos w] at hr ⊢; omega
          · rw [if_neg w] at hr ⊢; omega
        have hy : y'.toInt ≤ y.toInt ∧ y'.toInt ≤ spE T (par (p i)) ∧ 1 ≤ y'.toInt := by
          by_cases w : t0 < y
          · rw [if_pos w] at ey
            rw [i_lt] at w
            rw [ey]; omega
          · rw [if_neg w] at ey
            rw [i_lt] at w
            rw [ey]; omega
        refine hk2 hil _ _ _ ⟨rfl, by omega, rfl, hy.2.2, by omega, fun j hj => ?_⟩
        by_cases w : j = i
        · rw [w]; exact hy.2.1
        · have := y3 j (by omega); omega
      rw [nI_clamp (by omega), u28, u29, u31]
      have x31 : (T.1 31 a).toInt = xA T a := rfl
      have x28 : (T.1 28 a).toInt = lA T a := rfl
      have x29 : (T.1 29 a).toInt = hA T a := rfl
      rcases hor with ⟨e36, ep⟩ | ⟨e36, ep⟩
      · refine ⟨hvp, fun h => absurd (e36.symm.trans h) (by decide), fun _ => ⟨hva, hva, fin _ ?_⟩⟩
        rw [i_sub (by omega) (by omega), ep]
        unfold spE
        rw [if_pos (by omega), show 2 * a / 2 = a by omega]
        rfl
      · refine ⟨hvp, fun _ => ⟨hva, hva, fin _ ?_⟩, fun h => absurd e36 h⟩
        rw [i_sub (by omega) (by omega), ep]
        unfold spE
        rw [if_neg (by omega), show (2 * a + 1) / 2 = a by omega]
        rfl
