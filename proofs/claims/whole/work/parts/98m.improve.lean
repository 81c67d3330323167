/-! the reference's improve() -/
theorem eK_nd {S : ZS} {s x : Nat → Int} {nc nr t h : Nat} {w o : Int} (hC : zC S nc nr) (k : eK S s x nc nr nc nr t h w o) : t ≤ nr ∧ h ≤ nr ∧ -1000 ≤ w ∧ w ≤ 1000 := by
  have rl : ∀ v, rn nr v ≤ nr := fun v => by unfold rn; split <;> omega
  have cb : ∀ c, c < nc → -1000 ≤ cst S c ∧ cst S c ≤ 1000 := fun c hc => by
    have := (hC.2.2.2.2.2.2.1 c hc).2.2.2.2
    unfold zlim at this
    unfold cst
    omega
  rcases k with ⟨c, a1, a2, a3, a4, a5, a6⟩ | ⟨c, a1, a2, a3, a4, a5, a6⟩ | ⟨r', a1, a2, a3, a4, a5, a6⟩ | ⟨r', a1, a2, a3, a4, a5, a6, a7⟩
  · rw [a3, a4, a5]; have := cb c a1; exact ⟨rl _, rl _, by omega, by omega⟩
  · rw [a3, a4, a5]; have := cb c a1; exact ⟨rl _, rl _, by omega, by omega⟩
  · rw [a3, a4, a5]; exact ⟨rl _, rl _, by omega, by omega⟩
  · rw [a4, a5, a6]; exact ⟨rl _, rl _, by omega, by omega⟩
theorem edL.at {T : ZS} {n : Nat} {K : Nat → Nat → Int → Int → Prop} (h : edL T n K) {e : Nat} (he : e < n) : T.1 75 e = nI (tlR T e) ∧ T.1 76 e = nI (hdR T e) ∧ K (tlR T e) (hdR T e) (wR T e) (oR T e) := by
  obtain ⟨t, h2, a, b, c, d, k⟩ := h.2.1 e he
  have e1 : tlR T e = t := by unfold tlR; rw [c, nI_clamp (by omega)]
  have e2 : hdR T e = h2 := by unfold hdR; rw [d, nI_clamp (by omega)]
  rw [e1, e2]
  exact ⟨c, d, k⟩
theorem zSp.ed {T U : ZS} (h : zSp T U) : tlR U = tlR T ∧ hdR U = hdR T ∧ wR U = wR T ∧ oR U = oR T ∧ bsT U = bsT T := by
  refine ⟨funext fun e => ?_, funext fun e => ?_, funext fun e => ?_, funext fun e => ?_, funext fun e => ?_⟩
  · unfold tlR; rw [h.1 75 (by decide)]
  · unfold hdR; rw [h.1 76 (by decide)]
  · unfold wR; rw [h.2 77 (by decide)]
  · unfold oR; rw [h.1 78 (by decide)]
  · unfold bsT; rw [h.1 68 (by decide)]
theorem zSp.sg {S T U : ZS} {s : Nat → Int} {nr : Nat} (h : zSp T U) (g : rSg S T s nr) : rSg S U s nr := ⟨g.1.tr h.kp, fun r hr => by rw [h.1 71 (by decide)]; exact g.2 r hr⟩
theorem zSp.tr {T U V : ZS} (h : zSp T U) (g : zSp U V) : zSp T V := ⟨fun n a => (g.1 n a).trans (h.1 n a), fun n a => (g.2 n a).trans (h.2 n a)⟩
theorem x7_nothingFar {T : ZS} {Q : ZS → Prop} (q : ∀ U, zSp T U → (∀ v, v < 9 → faT U v = 0) → Q U) : X7_nothingFar T Q := by
  unfold X7_nothingFar
  refine zl_up 9 (fun i U => zSp T U ∧ ∀ v, v < i → faT U v = 0) (by omega) (fun i U k hi hJ hk2 => ?_) T ⟨zSp.rf T, fun v hv => by omega⟩
  obtain ⟨fU, bU⟩ := hJ
  show X7_nothingFar_B2 (nI i) U Q k
  unfold X7_nothingFar_B2 X7_nothingFar_b28
  refine ⟨fun z => ?_, fun z => ?_⟩
  · have := up_end (n := 9) (by omega) hi z
    subst this
    exact q U fU bU
  · have hlt := up_on (n := 9) (by omega) hi z
    have hvi : vp_in (nI i) 9 := vp_in_nI (by omega) (by omega)
    refine ⟨hvi, fun V eV => ⟨hvi, fun W eW w ew => ?_⟩⟩
    rw [nI_1] at ew
    rw [nI_clamp (by omega)] at eW eV
    subst ew
    have v1 : V.1 = U.1 := by rw [eV]; rfl
    have w2 : W.2 = V.2 := by rw [eW]; rfl
    refine hk2 hlt W ⟨⟨fun n hn => by rw [eW, zu_ne hn, v1]; exact fU.1 n hn, fun n hn => by rw [w2, eV, zw_ne hn]; exact fU.2 n hn⟩, fun v hv => ?_⟩
    unfold faT
    rw [w2, eV, zw_at]
    by_cases e : v = i
    · rw [if_pos ⟨rfl, e⟩]; decide
    · rw [if_neg (fun z => e z.2)]; exact bU v (by omega)
def zIm (T U : ZS) : Prop := (∀ n, n ≠ 61 → n ≠ 68 → n ≠ 75 → n ≠ 76 → n ≠ 78 → n ≠ 80 → U.1 n = T.1 n) ∧ ∀ j, j ≠ 20 → U.1 61 j = T.1 61 j
theorem zIm.rf (T : ZS) : zIm T T := ⟨fun _ _ _ _ _ _ _ => rfl, fun _ _ => rfl⟩
theorem zIm.tr {T U V : ZS} (h : zIm T U) (g : zIm U V) : zIm T V := ⟨fun n a b c d e f => (g.1 n a b c d e f).trans (h.1 n a b c d e f), fun j a => (g.2 j a).trans (h.2 j a)⟩
theorem zEd.im {T U : ZS} (h : zEd T U) : zIm T U := ⟨fun n a _ c d e _ => h.1 n a c d e, h.2.1⟩
theorem zSp.im {T U : ZS} (h : zSp T U) : zIm T U := ⟨fun n _ _ _ _ _ f => h.1 n f, fun j _ => by rw [h.1 61 (by decide)]⟩
theorem zIm.of {T U : ZS} (h : ∀ n, n ≠ 68 → U.1 n = T.1 n) : zIm T U := ⟨fun n _ b _ _ _ _ => h n b, fun j _ => by rw [h 61 (by decide)]⟩
theorem zIm.kp {T U : ZS} (h : zIm T U) : zKp T U := ⟨fun n hn => h.1 n (fun e => by subst e; cases hn) (fun e => by subst e; cases hn) (fun e => by subst e; cases hn) (fun e => by subst e; cases hn) (fun e => by subst e; cases hn) (fun e => by subst e; cases hn), h.2 1 (by decide), h.2 2 (by decide)⟩
theorem zIm.sg {S T U : ZS} {s : Nat → Int} {nr : Nat} (h : zIm T U) (g : rSg S T s nr) : rSg S U s nr := ⟨g.1.tr h.kp, fun r hr => by rw [h.1 71 (by decide) (by decide) (by decide) (by decide) (by decide) (by decide)]; exact g.2 r hr⟩
/-- labels that no change lowers -/
def pfa (S U : ZS) (s : Nat → Int) (nc nr : Nat) (x : Nat → Int) : Prop := (∀ t h w o, eK S s x nc nr nc nr t h w o → faT U h ≤ faT U t + w) ∧ ∀ v, v < nr + 1 → -400000 ≤ faT U v ∧ faT U v ≤ 400000
/-- one round of improve(): it is done, or the value falls -/
theorem x7_round {nc nr : Nat} {s : Nat → Int} {S T : ZS} {Q : Int32 → ZS → Prop} (hC : zC S nc nr) (hfl : flw S nc nr s) (hT : rSg S T s nr) (hx : ptS S s nc nr (bsT T))
    (q1 : ∀ U, zIm T U → bsT U = bsT T → pfa S U s nc nr (bsT U) → Q (-1) U)
    (q2 : ∀ U e, e < 60 → zIm T U → (∀ R : ZS → Prop, (∀ V, zIm U V → ptS S s nc nr (bsT V) → valI (cst S) (bsT V) nc + 1 ≤ valI (cst S) (bsT T) nc → rgO S s nc nr (bsT T) (bsT V) → R V) → X7_turn (nI e) U R) → Q (nI e) U) :
    X7_findEdges T (fun S_15 => X7_nothingFar S_15 (fun S_19 => X7_spread S_19 (fun r_23 S_23 => Q r_23 S_23))) := by
  have h2 := hC.2.1
  refine x7_findEdges hC hfl hT hx.1 (fun V n hn fV eV => x7_nothingFar (fun W fW w0 => ?_))
  have gV := fV.sg hT
  have gW := fW.sg gV
  have bV := fV.bs
  have bW : bsT W = bsT T := by rw [fW.ed.2.2.2.2, bV]
  have eKW : ∀ e, e < n → W.1 75 e = nI (tlR W e) ∧ W.1 76 e = nI (hdR W e) ∧ eK S s (bsT T) nc nr nc nr (tlR W e) (hdR W e) (wR W e) (oR W e) := fun e he => by
    have a := eV.at he
    rw [fW.1 75 (by decide), fW.1 76 (by decide), fW.ed.1, fW.ed.2.1, fW.ed.2.2.1, fW.ed.2.2.2.1]
    exact a
  have edW : edS W n nr 1000 := by
    refine ⟨by rw [fW.1 61 (by decide)]; exact eV.1, fun e he => ?_⟩
    obtain ⟨a, b, c⟩ := eKW e he
    obtain ⟨d1, d2, d3, d4⟩ := eK_nd hC c
    exact ⟨a, b, d1, d2, d3, d4⟩
  refine x7_spread (src := fun _ => True) hC gW.1 edW (by omega) (by omega) (by omega) (fun v hv => Or.inr ⟨trivial, w0 v (by omega)⟩) (fun v hv _ => w0 v (by omega)) (fun U x l par fU hxl hbf h80 => ?_)
  have gU := fU.sg gW
  have bU : bsT U = bsT T := by rw [fU.ed.2.2.2.2, bW]
  have hnd : ∀ e, e < n → tlR W e < nr + 1 ∧ hdR W e < nr + 1 := fun e he => by
    have := edW.2 e he
    omega
  have fr : zIm T U := (fV.im.tr fW.im).tr fU.im
  rcases hxl with ⟨ex, el⟩ | ⟨hl, ex⟩
  · subst ex
    refine q1 U fr bU ⟨fun t h w o k => ?_, fun v hv => ?_⟩
    · rw [bU] at k
      obtain ⟨e, b1, b2, b3, b4, b5⟩ := eV.2.2 t h w o k
      have d1 := bfx_done (fun e he => (hnd e he).1) hbf (by omega) e b1 (by
        obtain ⟨τ, r, t', a1, a2, a3, a4, a5, a6, a7⟩ := hbf
        exact a7 _ (hnd e b1).1 trivial)
      have nk := eK_nd hC k
      have t1 : tlR W e = t := by rw [fW.ed.1]; unfold tlR; rw [b2, nI_clamp (by omega)]
      have t2 : hdR W e = h := by rw [fW.ed.2.1]; unfold hdR; rw [b3, nI_clamp (by omega)]
      have t3 : wR W e = w := by rw [fW.ed.2.2.1]; exact b4
      rw [t1, t2, t3] at d1
      exact d1
    · obtain ⟨τ, r, t', a1, a2, a3, a4, a5, a6, a7⟩ := hbf
      have := a7 v hv trivial
      have bd := kE_w (B := 1000) (k := nr + 2) (i := n) (E := n) (M := 36) (by omega) (by omega) hn (by omega)
      have b36 : (1000 : Int) * (11 * (36 : Nat)) = 396000 := by decide
      rcases a4 v hv with g | g
      · omega
      · omega
  · subst ex
    refine q2 U l (by omega) fr (fun R hR => ?_)
    obtain ⟨N, n0, hN, P, p1, p2, p3, p4, p5⟩ := bfx_cyc hnd hbf hl
    have e1 := fU.ed
    refine x7_turn (E := n) (N := N) (par := par) (P := P) hC hfl gU (by rw [bU]; exact hx) (by omega) (fun e he => ?_) hl (by rw [e1.2.1]; exact n0) (fun j => by rw [e1.1, e1.2.1]; exact hN j) h80 p1 p2 p3 p4 (by rw [e1.2.2.1]; exact p5) (fun Y fY y2 hp hv hg => ?_)
    · rw [fU.1 75 (by decide), fU.1 76 (by decide), e1.1, e1.2.1, e1.2.2.1, e1.2.2.2.1, bU]
      exact eKW e he
    · rw [bU] at hv hg
      exact hR Y (zIm.of fY) hp hv hg
/-- so many turns from one point to another -/
def chN (S : ZS) (s : Nat → Int) (nc nr : Nat) (x y : Nat → Int) (i : Nat) : Prop := ∃ X : Nat → Nat → Int, X 0 = x ∧ X i = y ∧ ∀ j, j < i → ptS S s nc nr (X j) ∧ rgO S s nc nr (X j) (X (j + 1))
theorem chN.st {S : ZS} {s x y z : Nat → Int} {nc nr i : Nat} (h : chN S s nc nr x y i) (hy : ptS S s nc nr y) (g : rgO S s nc nr y z) : chN S s nc nr x z (i + 1) := by
  obtain ⟨X, a, b, c⟩ := h
  refine ⟨fun j => if j ≤ i then X j else z, by show (if 0 ≤ i then X 0 else z) = x; rw [if_pos (by omega)]; exact a, by show (if i + 1 ≤ i then X (i + 1) else z) = z; rw [if_neg (by omega)], fun j hj => ?_⟩
  show ptS S s nc nr (if j ≤ i then X j else z) ∧ rgO S s nc nr (if j ≤ i then X j else z) (if j + 1 ≤ i then X (j + 1) else z)
  rw [if_pos (by omega)]
  by_cases e : j = i
  · rw [e, if_neg (by omega), b]
    exact ⟨hy, g⟩
  · rw [if_pos (by omega)]
    exact c j (by omega)
set_option maxRecDepth 100000 in
theorem x7_improve {nc nr : Nat} {s : Nat → Int} {S T : ZS} {Q : ZS → Prop} (hC : zC S nc nr) (hfl : flw S nc nr s) (hT : rSg S T s nr) (hx : ptS S s nc nr (bsT T))
    (q : ∀ U, zIm T U → ptS S s nc nr (bsT U) → pfa S U s nc nr (bsT U) ∨ chN S s nc nr (bsT T) (bsT U) 10000000 → Q U) : X7_improve T Q := by
  unfold X7_improve
  refine zl_up2 10000000 (fun i x U => zIm T U ∧ ptS S s nc nr (bsT U) ∧ ((x = 0 ∧ pfa S U s nc nr (bsT U)) ∨ (x = 1 ∧ chN S s nc nr (bsT T) (bsT U) i))) (by omega) (fun i x U k hi hJ hk2 => ?_) 1 T ⟨zIm.rf T, hx, Or.inr ⟨rfl, fun _ => bsT T, rfl, rfl, fun j hj => absurd hj (Nat.not_lt_zero j)⟩⟩
  obtain ⟨fU, xU, dU⟩ := hJ
  show X7_improve_B4 x (nI i) U Q k
  unfold X7_improve_B4 X7_improve_b53
  refine ⟨fun z => ?_, fun z => ⟨fun z2 => ?_, fun z2 => ?_⟩⟩
  · refine q U fU xU ?_
    rcases dU with ⟨_, d⟩ | ⟨_, d⟩
    · exact Or.inl d
    · have := up_endG (n := 10000000) (by omega) hi z
      rw [this] at d
      exact Or.inr d
  · refine q U fU xU ?_
    rcases dU with ⟨_, d⟩ | ⟨e, d⟩
    · exact Or.inl d
    · rw [e] at z2; exact absurd z2 (by decide)
  · have hlt := up_onG (n := 10000000) (by omega) hi z
    have dv : chN S s nc nr (bsT T) (bsT U) i := by
      rcases dU with ⟨e, _⟩ | ⟨_, d⟩
      · exact absurd e z2
      · exact d
    refine x7_round hC hfl (fU.sg hT) xU (Q := fun r_23 S_23 => (r_23 = (-1 : Int32) → X7_improve_b37 (nI i) r_23 (0 : Int32) S_23 Q k) ∧ (¬ r_23 = (-1 : Int32) → X7_improve_b37 (nI i) r_23 (1 : Int32) S_23 Q k)) (fun V fV bV pV => ⟨fun _ => ?_, fun g => absurd rfl g⟩) (fun V e he fV hV => ⟨fun g => absurd g (nI_m1 (by omega)), fun _ => ?_⟩)
    · unfold X7_improve_b37 X7_improve_b47
      refine ⟨fun _ w ew => ?_, fun g => absurd rfl g⟩
      rw [nI_1] at ew
      subst ew
      exact hk2 hlt _ _ ⟨fU.tr fV, by rw [bV]; exact xU, Or.inl ⟨rfl, pV⟩⟩
    · unfold X7_improve_b37 X7_improve_b47
      refine ⟨fun g => absurd g (by decide), fun _ => hV _ (fun W fW xW vW gW w ew => ?_)⟩
      rw [nI_1] at ew
      subst ew
      exact hk2 hlt _ _ ⟨(fU.tr fV).tr fW, xW, Or.inr ⟨rfl, dv.st xU gW⟩⟩
