/-! the flow: both sides find the best point, and the same prices -/
theorem arP_of {S V : ZS} {nc nr m : Nat} {s : Nat → Int} (hC : zC S nc nr) (hfl : flw S nc nr s) (hl : laid S V s nc nr m) (h0 : ∀ v, v < 9 → nA V v = 0) : arP S V s (xA V) nc nr m := by
  have h2 := hC.2.1
  have hm := hl.2.1
  refine ⟨hl.1.1, hl.1.2.1, fun a ha => ?_⟩
  obtain ⟨o1, o2, o3, o4, o5, o6, o7, o8, o9, o10⟩ := hl.1.2.2.1 a ha
  by_cases hc : a < nc
  · obtain ⟨q1, q2, q3, q4, q5, q6⟩ := hl.2.2.1 a hc
    have ec : cA V a = cst S a := by unfold cA cst; rw [q6]
    have cb := (hC.2.2.2.2.2.2.1 a hc).2.2.2.2
    unfold zlim at cb
    have cb2 : -1000 ≤ cst S a ∧ cst S a ≤ 1000 := cb
    refine ⟨o1, o2, o3, o4, by omega, by omega, fun g π hπ => ?_, fun g π hπ => ?_⟩
    · rw [q4] at g
      have := hπ _ _ _ _ (Or.inl ⟨a, hc, g, rfl, rfl, rfl, rfl⟩)
      rw [q1, q2, ec]; omega
    · rw [q3] at g
      have := hπ _ _ _ _ (Or.inr (Or.inl ⟨a, hc, g, rfl, rfl, rfl, rfl⟩))
      rw [q1, q2, ec]; omega
  · obtain ⟨r, g1, g2, g3, g4, g5, g6, g7⟩ := hl.2.2.2.1 a (by omega) ha
    have ec : cA V a = 0 := by unfold cA; rw [g6]; rfl
    have ud : uA V a = uS s r ∧ dA V a = dS s r := by
      unfold uS dS
      rcases g7 with ⟨w1, w2, w3⟩ | ⟨w1, w2, w3⟩
      · rw [if_pos w1, if_pos w1]; exact ⟨w2, w3⟩
      · have : ¬ s r = 1 := by omega
        rw [if_neg this, if_neg this]; exact ⟨w2, w3⟩
    refine ⟨o1, o2, o3, o4, by omega, by omega, fun g π hπ => ?_, fun g π hπ => ?_⟩
    · have := hπ _ _ _ _ (Or.inr (Or.inr (Or.inl ⟨r, g1, g2, rfl, rfl, rfl, rfl⟩)))
      rw [ud.1, ud.2, ec]; omega
    · have sr := slack_row h2 hfl hl h0 g1
      have nn : ∀ j, j < m - nc → 0 ≤ slT V s r (nc + j) := fun j hj => by
        rcases slT_or h2 hl g1 (show nc ≤ nc + j by omega) (show nc + j < m by omega) with ⟨e, _⟩ | ⟨e, _, _⟩
        · rw [e]; exact Int.le_refl _
        · rw [e]
          obtain ⟨r', k1, k2, k3, k4, k5, k6, k7⟩ := hl.2.2.2.1 (nc + j) (by omega) (by omega)
          have ok := (hl.1.2.2.1 (nc + j) (by omega)).2.2.2.2.2.1
          rw [k3] at ok
          exact ok
      have le := sI_lea (f := fun j => slT V s r (nc + j)) (n := m - nc) (a := a - nc) nn (by omega)
      rw [← sr, show nc + (a - nc) = a by omega] at le
      have t : slT V s r a = xA V a := by
        rcases slT_or h2 hl g1 (by omega : nc ≤ a) ha with ⟨_, w⟩ | ⟨e, _, _⟩
        · exact absurd g7 w
        · exact e
      rw [t] at le
      have := hπ _ _ _ _ (Or.inr (Or.inr (Or.inr ⟨r, g1, g2, by omega, rfl, rfl, rfl, rfl⟩)))
      rw [ud.1, ud.2, ec]; omega
theorem mxE_of {S V : ZS} {nc nr m : Nat} {s : Nat → Int} {M : Nat → Nat → Int} (hC : zC S nc nr) (hfl : flw S nc nr s) (hl : laid S V s nc nr m) (h0 : ∀ v, v < 9 → nA V v = 0) (hM : ∀ a, a < m → aLm V M a) : mxE S s (xA V) nc nr M := by
  have h2 := hC.2.1
  have hm := hl.2.1
  have hx := cl_pt h2 hfl.2.1 hfl hl h0
  have e8 : ∀ c, cn nr (rn nr (upc S s nr c)) = upc S s nr c ∧ cn nr (rn nr (dnc S s nr c)) = dnc S s nr c := fun c => ⟨cn_rn h2 ends_8.1, cn_rn h2 ends_8.2⟩
  have es : ∀ r, r < nr → cn nr (rn nr (uS s r)) = uS s r ∧ cn nr (rn nr (dS s r)) = dS s r := fun r hr => by
    refine ⟨cn_rn h2 ?_, cn_rn h2 ?_⟩
    · unfold uS; split
      · exact Or.inl hr
      · exact Or.inr rfl
    · unfold dS; split
      · exact Or.inr rfl
      · exact Or.inl hr
  have udS : ∀ a r, slR V s a r → uA V a = uS s r ∧ dA V a = dS s r := fun a r g7 => by
    unfold uS dS
    rcases g7 with ⟨w1, w2, w3⟩ | ⟨w1, w2, w3⟩
    · rw [if_pos w1, if_pos w1]; exact ⟨w2, w3⟩
    · have : ¬ s r = 1 := by omega
      rw [if_neg this, if_neg this]; exact ⟨w2, w3⟩
  have nn : ∀ r, r < nr → ∀ j, j < m - nc → 0 ≤ slT V s r (nc + j) := fun r hr j hj => by
    rcases slT_or h2 hl hr (show nc ≤ nc + j by omega) (show nc + j < m by omega) with ⟨e, _⟩ | ⟨e, _, _⟩
    · rw [e]; exact Int.le_refl _
    · rw [e]
      obtain ⟨r', k1, k2, k3, k4, k5, k6, k7⟩ := hl.2.2.2.1 (nc + j) (by omega) (by omega)
      have ok := (hl.1.2.2.1 (nc + j) (by omega)).2.2.2.2.2.1
      rw [k3] at ok
      exact ok
  intro t h w o k
  rcases k with ⟨c, a1, a2, a3, a4, a5, a6⟩ | ⟨c, a1, a2, a3, a4, a5, a6⟩ | ⟨r, a1, a2, a3, a4, a5, a6⟩ | ⟨r, a1, a2, a3, a4, a5, a6, a7⟩
  · obtain ⟨q1, q2, q3, q4, q5, q6⟩ := hl.2.2.1 c a1
    have ec : cA V c = cst S c := by unfold cA cst; rw [q6]
    have l := (hM c (by omega)).1 (by rw [q4]; exact a2)
    rw [q1, q2, ec] at l
    rw [a3, a4, a5, (e8 c).1, (e8 c).2]; exact l
  · obtain ⟨q1, q2, q3, q4, q5, q6⟩ := hl.2.2.1 c a1
    have ec : cA V c = cst S c := by unfold cA cst; rw [q6]
    have l := (hM c (by omega)).2 (by rw [q3]; exact a2)
    rw [q1, q2, ec] at l
    rw [a3, a4, a5, (e8 c).1, (e8 c).2]; exact l
  · obtain ⟨a, b1, b2, b3⟩ := hl.2.2.2.2 r a1 a2
    obtain ⟨r', k1, k2, k3, k4, k5, k6, k7⟩ := hl.2.2.2.1 a b1 b2
    have ec : cA V a = 0 := by unfold cA; rw [k6]; rfl
    have sr := slack_row h2 hfl hl h0 a1
    have bd := ev_bd hC hfl a1 hx.1
    have le := sI_lea (f := fun j => slT V s r (nc + j)) (n := m - nc) (a := a - nc) (nn r a1) (by omega)
    rw [← sr, show nc + (a - nc) = a by omega] at le
    have t1 : slT V s r a = xA V a := by
      rcases slT_or h2 hl a1 b1 b2 with ⟨_, w⟩ | ⟨e, _, _⟩
      · exact absurd b3 w
      · exact e
    rw [t1] at le
    have l := (hM a b2).1 (by rw [k4]; rcases hfl.2.1 r a1 with e | e <;> rw [e] at le <;> omega)
    rw [(udS a r b3).1, (udS a r b3).2, ec] at l
    rw [a3, a4, a5, (es r a1).1, (es r a1).2]; exact l
  · have sr := slack_row h2 hfl hl h0 a1
    rw [sr] at a3
    have ex : ∃ j, j < m - nc ∧ 0 < slT V s r (nc + j) := by
      refine Classical.byContradiction (fun w => ?_)
      have : sI (fun j => slT V s r (nc + j)) (m - nc) ≤ 0 := by
        have := sI_mono (f := fun j => slT V s r (nc + j)) (g := fun _ => 0) (n := m - nc) (fun j hj => Int.not_lt.mp (fun g => w ⟨j, hj, g⟩))
        rw [sI_0] at this
        exact this
      omega
    obtain ⟨j, hj, pj⟩ := ex
    obtain ⟨r', k1, k2, k3, k4, k5, k6, k7⟩ := hl.2.2.2.1 (nc + j) (by omega) (by omega)
    have ec : cA V (nc + j) = 0 := by unfold cA; rw [k6]; rfl
    rcases slT_or h2 hl a1 (show nc ≤ nc + j by omega) (show nc + j < m by omega) with ⟨e, _⟩ | ⟨e, w, _⟩
    · omega
    · have l := (hM (nc + j) (by omega)).2 (by rw [k3]; omega)
      rw [(udS _ r w).1, (udS _ r w).2, ec] at l
      rw [a4, a5, a6, (es r a1).1, (es r a1).2]; omega
theorem val_lo {S : ZS} {nc nr : Nat} {s y : Nat → Int} (hC : zC S nc nr) (hy : ptS S s nc nr y) : -10000000 ≤ valI (cst S) y nc := by
  have h1 := hC.1
  have t := sI_bd (f := fun c => cst S c * y c) (n := nc) (K := 1000000) (fun c hc => by
    have z := hC.2.2.2.2.2.2.1 c hc
    have z1 := z.2.2.2.1
    have z2 := z.2.2.2.2
    unfold zok at z1
    unfold zlim at z2
    have b := hy.1 c hc
    unfold loc hic at b
    have c1 : -1000 ≤ cst S c ∧ cst S c ≤ 1000 := z2
    have p1 : cst S c * y c ≤ 1000000 ∧ -1000000 ≤ cst S c * y c := by
      have n1 : (cst S c).natAbs ≤ 1000 := by omega
      have n2 : (y c).natAbs ≤ 1000 := by omega
      have n3 : (cst S c * y c).natAbs ≤ 1000 * 1000 := by rw [Int.natAbs_mul]; exact Nat.mul_le_mul n1 n2
      omega
    exact ⟨p1.2, p1.1⟩)
  unfold valI
  omega
theorem cl_best {S V : ZS} {nc nr m : Nat} {s : Nat → Int} (hC : zC S nc nr) (hfl : flw S nc nr s) (hl : laid S V s nc nr m) (hp : pot V m) (h0 : ∀ v, v < 9 → nA V v = 0) : bstP (ptS S s nc nr) (cst S) nc (xA V) := by
  have h2 := hC.2.1
  have hx := cl_pt h2 hfl.2.1 hfl hl h0
  obtain ⟨z, hz⟩ := bst_ex (P := ptS S s nc nr) (w := cst S) (nc := nc) (l := -1000) (m := -10000000) ⟨xA V, hx⟩ (fun y hy c hc => by
    have z := (hC.2.2.2.2.2.2.1 c hc).2.2.2.1
    unfold zok at z
    have b := hy.1 c hc
    unfold loc at b
    omega) (fun y hy => val_lo hC hy)
  exact bst_congr (same_pt hC.1 hfl.2.1 h2 (ends_c hfl h2) (fun c _ => ends_8) hx (fun y hy => cl_least hC hfl hl hp h0 hy) hz) hz
/-- what a solved flow shows: the best point and its prices, in the cells n and m -/
def solX (S : ZS) (s : Nat → Int) (nc nr : Nat) (best : Nat → Int) (price : Nat → Int) : Prop := ∃ x y, bstP (ptS S s nc nr) (cst S) nc x ∧ (∀ c, c < nc → best c = x c) ∧ canI S s x nc nr nr y ∧ ∀ r, r < nr → price r = y r * s r
theorem solX.uniq {S : ZS} {s : Nat → Int} {nc nr : Nat} {b1 b2 p1 p2 : Nat → Int} (h : solX S s nc nr b1 p1) (g : solX S s nc nr b2 p2) : (∀ c, c < nc → b1 c = b2 c) ∧ ∀ r, r < nr → p1 r = p2 r := by
  obtain ⟨x, y, h1, h2, h3, h4⟩ := h
  obtain ⟨z, w, g1, g2, g3, g4⟩ := g
  have e := bst_uniq h1 g1
  refine ⟨fun c hc => by rw [h2 c hc, g2 c hc, e c hc], fun r hr => ?_⟩
  rw [h4 r hr, g4 r hr, (canI_xc e h3).uniq g3 r hr]
theorem x6_flow {nc nr : Nat} {s : Nat → Int} {T : ZS} {Q : Int32 → ZS → Prop} (hC : zC T nc nr) (hfl : flw T nc nr s) (h23 : ∀ r, r < nr → (T.1 23 r).toInt = s r)
    (q1 : ∀ U, zKp T U → solX T s nc nr (fun c => (U.1 7 c).toInt) (fun r => (U.1 37 r).toInt) → okF T s nc nr → Q 1 U)
    (q3 : ∀ U k v, zKp T U → prF T s nc nr k v → U.1 5 0 = nI k → U.1 5 1 = v → Q 3 U) : X6_solveFlow T Q := by
  have h1 := hC.1
  have h2 := hC.2.1
  refine x6_solveFlow hC hfl h23 (fun V m kV v23 hl hpo hz hok => ?_) q3
  have hV := hC.kp kV
  have bst := cl_best hC hfl hl hpo hz
  obtain ⟨ρ, r1, r2⟩ := opt_pot hC hfl bst.1 (fun y hy => by rcases bst.2 y hy with g | g <;> omega)
  rw [hV.2.2.1]
  refine ⟨⟨by decide, by decide, nI_pos (by omega), ?_, ?_⟩, fun W eW => ?_⟩
  · show 0 + (nI nc).toNatClampNeg ≤ 18
    rw [nI_clamp (by omega)]; omega
  · show 0 + (nI nc).toNatClampNeg ≤ 10
    rw [nI_clamp (by omega)]; omega
  · have fW : ∀ n, n ≠ 7 → W.1 n = V.1 n := fun n hn => by rw [eW]; unfold zur; dsimp only; rw [if_neg hn]
    have w7 : ∀ c, c < nc → (W.1 7 c).toInt = xA V c := fun c hc => by
      rw [eW]
      unfold zur
      dsimp only
      rw [if_pos rfl, nI_clamp (by omega)]
      have z0 : (0 : Int32).toNatClampNeg = 0 := rfl
      unfold va_cpy
      rw [z0, if_pos (by omega), show 0 + (c - 0) = c by omega]
      rfl
    have kW : zKp T W := by rw [eW]; exact kV.ur rfl (by decide)
    have eu : uA W = uA V := funext fun a => by unfold uA; rw [fW 26 (by decide)]
    have ed : dA W = dA V := funext fun a => by unfold dA; rw [fW 27 (by decide)]
    have el : lA W = lA V := funext fun a => by unfold lA; rw [fW 28 (by decide)]
    have eh : hA W = hA V := funext fun a => by unfold hA; rw [fW 29 (by decide)]
    have ex : xA W = xA V := funext fun a => by unfold xA; rw [fW 31 (by decide)]
    have ec : cA W = cA V := funext fun a => by unfold cA; rw [fW 30 (by decide)]
    have arW : arP T W s (xA V) nc nr m := by
      have := arP_of hC hfl hl hz
      unfold arP at *
      rw [fW 3 (by decide), fW 26 (by decide), fW 27 (by decide), eu, ed, el, eh, ex, ec]
      exact this
    rw [(hC.kp kW).2.2.2.1]
    refine x2_choose hC hfl.2.1 ⟨r1, r2⟩ arW (fun r hr => by rw [fW 23 (by decide), v23]; exact h23 r hr) (fun M hM => mxE_of hC hfl hl hz (fun a ha => ?_)) (fun U y fU u2 hcan hpr => ?_)
    · have := hM a ha
      unfold aLm at *
      rw [eu, ed, el, eh, ex, ec] at this
      exact this
    · refine q1 U (kW.tr (zKp.of (fun n hn => ?_) (fU 61 (by decide) (by decide) (by omega)))) ⟨xA V, y, bst, fun c hc => ?_, hcan, hpr⟩ hok
      · unfold kpt at hn
        simp only [Bool.or_eq_true, Bool.and_eq_true, decide_eq_true_eq] at hn
        exact fU n (by omega) (by omega) (by omega)
      · show (U.1 7 c).toInt = xA V c
        rw [fU 7 (by decide) (by decide) (by omega)]
        exact w7 c hc
/-- WHAT IS WANTING: that improve() ends before its ten million turns -/
def TB : Prop := ∀ (S T : ZS) (nc nr : Nat) (s : Nat → Int) (Q : ZS → Prop), zC S nc nr → flw S nc nr s → rSg S T s nr → lxm (ptS S s nc nr) nc (bsT T) → (∀ U, zIm T U → ptS S s nc nr (bsT U) → pfa S U s nc nr (bsT U) → Q U) → X7_improve T Q
def zRf (T U : ZS) : Prop := (∀ n, n ≠ 61 → n ≠ 68 → n ≠ 72 → n ≠ 73 → n ≠ 74 → n ≠ 75 → n ≠ 76 → n ≠ 78 → n ≠ 80 → U.1 n = T.1 n) ∧ ∀ j, j ≠ 20 → U.1 61 j = T.1 61 j
theorem zRf.kp {T U : ZS} (h : zRf T U) : zKp T U := ⟨fun n hn => by
  unfold kpt at hn
  simp only [Bool.or_eq_true, Bool.and_eq_true, decide_eq_true_eq] at hn
  exact h.1 n (by omega) (by omega) (by omega) (by omega) (by omega) (by omega) (by omega) (by omega) (by omega), h.2 1 (by decide), h.2 2 (by decide)⟩
theorem zRf.sg {S T U : ZS} {s : Nat → Int} {nr : Nat} (h : zRf T U) (g : rSg S T s nr) : rSg S U s nr := ⟨g.1.tr h.kp, fun r hr => by rw [h.1 71 (by decide) (by decide) (by decide) (by decide) (by decide) (by decide) (by decide) (by decide) (by decide)]; exact g.2 r hr⟩
theorem zRf.tr {T U V : ZS} (h : zRf T U) (g : zRf U V) : zRf T V := ⟨fun n a b c d e f i j k => (g.1 n a b c d e f i j k).trans (h.1 n a b c d e f i j k), fun j a => (g.2 j a).trans (h.2 j a)⟩
theorem lxm_congr {P Q : (Nat → Int) → Prop} {nc : Nat} {x : Nat → Int} (h : ∀ y, P y ↔ Q y) (g : lxm P nc x) : lxm Q nc x := ⟨(h x).mp g.1, fun y hy => g.2 y ((h y).mpr hy)⟩
theorem x7_flow {nc nr : Nat} {s : Nat → Int} {S U : ZS} {Q : ZS → Prop} (hTB : TB) (hC : zC S nc nr) (hfl : flw S nc nr s) (hr : rOK S U s nc nr) (c1 : ∀ c, c < nc → U.1 72 c = S.1 8 c ∧ U.1 73 c = S.1 9 c) (r1 : ∀ r, r < nr → U.1 74 r = S.1 11 r) (hok : okF S s nc nr)
    (q : ∀ F, zRf U F → solX S s nc nr (fun c => (F.1 68 c).toInt) (fun r => (F.2 69 r).toInt) → Q F) : X7_findLeast U (fun S_43 => X7_improve S_43 (fun S_47 => X7_keepBest S_47 (fun S_51 => X7_findLeast S_51 (fun S_55 => X7_findPrices S_55 (fun S_59 => Q S_59))))) := by
  have h1 := hC.1
  have h2 := hC.2.1
  have hs := hfl.2.1
  have he := ends_c hfl h2
  have hu : eds nr nc (upc S s nr) (dnc S s nr) := fun c _ => ends_8
  have lh : ∀ c, c < nc → loc S c ≤ hic S c := fun c hc => by
    have z := (hC.2.2.2.2.2.2.1 c hc).2.2.2.1
    unfold zok at z
    unfold loc hic
    omega
  have el : ∀ c, c < nc → loT U c = loc S c ∧ hiT U c = hic S c := fun c hc => by unfold loT hiT loc hic; rw [(c1 c hc).1, (c1 c hc).2]; exact ⟨rfl, rfl⟩
  have ek : ∀ r, r < nr → (kaT U r ↔ kap S r) := fun r hr => by unfold kaT kap; rw [r1 r hr]
  have eP : ∀ y, pt (gg S s) (bR S s) s (kaT U) nr nc (loT U) (hiT U) y ↔ ptS S s nc nr y := fun y => by
    refine ⟨fun h => pt_congr (fun _ _ => rfl) ek (fun c hc => ?_) h, fun h => pt_congr (fun _ _ => rfl) (fun r hr => (ek r hr).symm) (fun c hc => ?_) h⟩
    · rw [← (el c hc).1, ← (el c hc).2]; exact h.1 c hc
    · rw [(el c hc).1, (el c hc).2]; exact h.1 c hc
  have sgU : rSg S U s nr := ⟨hr.1, hr.2.1⟩
  refine x7_findLeast hC hfl hr (fun c hc => by rw [(el c hc).1, (el c hc).2]; exact lh c hc) ?_ (fun A fA a2 lA => ?_)
  · obtain ⟨y, hy⟩ := (noSh_pt hs h2 he hu lh).mp hok
    exact ⟨y, (eP y).mpr hy⟩
  · have zA : zRf U A := ⟨fun n _ b c d _ _ _ _ _ => fA n c d b, fun j _ => by rw [fA 61 (by decide) (by decide) (by decide)]⟩
    have sgA := zA.sg sgU
    refine hTB S A nc nr s _ hC hfl sgA (lxm_congr eP lA) (fun B fB xB pB => ?_)
    have zB : zRf A B := ⟨fun n a b _ _ _ e f g i => fB.1 n a b e f g i, fB.2⟩
    have sgB := zB.sg sgA
    refine x7_keepBest hC hfl sgB (fun v hv => by have := pB.2 v hv; omega) (fun D fD d2 kD => ?_)
    have zD : zRf B D := ⟨fun n _ _ c d e _ _ _ _ => fD n c d e, fun j _ => by rw [fD 61 (by decide) (by decide) (by decide)]⟩
    have sgD := zD.sg sgB
    have pD : pfa S D s nc nr (bsT B) := by
      have e : faT D = faT B := funext fun v => by unfold faT; rw [d2]
      unfold pfa at *
      rw [e]; exact pB
    have lhD : ∀ c, c < nc → loT D c ≤ hiT D c := fun c hc => by
      have := lh c hc
      rw [(kD.1 c hc).1, (kD.1 c hc).2]
      split <;> split <;> omega
    have rD : rOK S D s nc nr := by
      refine ⟨sgD.1, sgD.2, fun c hc => ?_⟩
      have z := (hC.2.2.2.2.2.2.1 c hc).2.2.2.1
      unfold zok at z
      rw [(kD.1 c hc).1, (kD.1 c hc).2]
      unfold loc hic
      split <;> split <;> omega
    refine x7_findLeast hC hfl rD lhD ⟨bsT B, kpB_in hs kD pD xB⟩ (fun E fE e2 lE => ?_)
    have zE : zRf D E := ⟨fun n _ b c d _ _ _ _ _ => fE n c d b, fun j _ => by rw [fE 61 (by decide) (by decide) (by decide)]⟩
    have sgE := zE.sg sgD
    obtain ⟨bE, pE⟩ := kpB_best h2 hfl kD pD xB lh lE
    have pE2 : pfa S E s nc nr (bsT E) := by
      have e : faT E = faT D := funext fun v => by unfold faT; rw [e2]
      unfold pfa at *
      rw [e]; exact pE
    refine x7_findPrices (ρ := faT E) hC hfl sgE bE.1.1 pE2.1 pE2.2 (fun F y fF cF pF => ?_)
    have zF : zRf E F := ⟨fun n a _ _ _ _ e f g i => fF.1 n a e f g i, fF.2⟩
    refine q F ((((zA.tr zB).tr zD).tr zE).tr zF) ⟨bsT E, y, bE, fun c hc => ?_, cF, pF⟩
    show (F.1 68 c).toInt = bsT E c
    rw [fF.1 68 (by decide) (by decide) (by decide) (by decide) (by decide)]
    rfl
