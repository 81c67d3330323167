/-! the whole network as it is laid -/
def slR (T : ZS) (s : Nat → Int) (a r : Nat) : Prop := (s r = 1 ∧ uA T a = r ∧ dA T a = 8) ∨ (s r = -1 ∧ uA T a = 8 ∧ dA T a = r)
def slA (S T : ZS) (s : Nat → Int) (nr a : Nat) : Prop := ∃ r, r < nr ∧ S.1 11 r = 0 ∧ lA T a = 0 ∧ hA T a = 1000000 ∧ wA T a = 0 ∧ T.1 30 a = 0 ∧ slR T s a r
theorem arcEq.kR {T U : ZS} {s : Nat → Int} {a r : Nat} (h : arcEq T U a) (g : slR T s a r) : slR U s a r := by
  obtain ⟨h1, h2, h3, h4, h5, h6, h7⟩ := h
  unfold slR uA dA at *
  rw [h1, h2]
  exact g
theorem arcEq.kA {S T U : ZS} {s : Nat → Int} {nr a : Nat} (h : arcEq T U a) (g : slA S T s nr a) : slA S U s nr a := by
  obtain ⟨r, g1, g2, g3, g4, g5, g6, g7⟩ := g
  have h' := h
  obtain ⟨h1, h2, h3, h4, h5, h6, h7⟩ := h
  refine ⟨r, g1, g2, ?_, ?_, ?_, by rw [h5]; exact g6, h'.kR g7⟩
  · unfold lA at *; rw [h3]; exact g3
  · unfold hA at *; rw [h4]; exact g4
  · unfold wA at *; rw [h7]; exact g5
theorem x1_layFree {r nr m : Nat} {y2 : Int32} {s b : Nat → Int} {S T : ZS} {Q : ZS → Prop} (hk : zKp S T) (hN : net T m b) (h18 : m < 18) (hr : r < nr) (h2 : nr ≤ 8) (h11 : S.1 11 r = 0) (hs : s r = 1 ∨ s r = -1) (hy : y2.toInt = s r)
    (q : ∀ U, zKp S U → U.1 23 = T.1 23 → net U (m + 1) b → (∀ a, a < m → arcEq T U a) → p0 U m → xA U m = 0 → slA S U s nr m → slR U s m r → Q U) : X1_layFree (nI r) y2 T Q := by
  have hva : vp_in (nI m) 18 := vp_in_nI (by omega) (by omega)
  have c0 : (0 : Int32).toInt = 0 := by decide
  have c6 : (1000000 : Int32).toInt = 1000000 := by decide
  have fin : ∀ u d : Nat, u ≤ 8 → d ≤ 8 → ((s r = 1 ∧ u = r ∧ d = 8) ∨ (s r = -1 ∧ u = 8 ∧ d = r)) → X1_layFree_b21 (nI m) (zu (zu (zu T 26 m (nI u)) 27 m (nI d)) 3 0 (nI (m + 1))) Q := by
    intro u d hu hd hor
    unfold X1_layFree_b21
    rw [nI_clamp (by omega)]
    refine ⟨hva, fun V1 e1 => ⟨hva, fun V2 e2 => ⟨hva, fun V3 e3 => ⟨hva, fun V4 e4 => ⟨hva, fun V5 e5 => ?_⟩⟩⟩⟩⟩
    have k5 : zKp S V5 := by
      rw [e5, e4, e3, e2, e1]
      exact (((((((hk.u rfl (by decide)).u rfl (by decide)).u rfl (by decide)).u rfl (by decide)).u rfl (by decide)).u rfl (by decide)).u rfl (by decide)).u rfl (by decide)
    have f3 : V5.1 3 0 = nI (m + 1) := by rw [e5, zu_ne (by decide), e4, zu_ne (by decide), e3, zu_ne (by decide), e2, zu_ne (by decide), e1, zu_ne (by decide), zu_at, if_pos ⟨rfl, rfl⟩]
    have f23 : V5.1 23 = T.1 23 := by rw [e5, zu_ne (by decide), e4, zu_ne (by decide), e3, zu_ne (by decide), e2, zu_ne (by decide), e1, zu_ne (by decide), zu_ne (by decide), zu_ne (by decide), zu_ne (by decide)]
    have f33 : V5.1 33 = T.1 33 := by rw [e5, zu_ne (by decide), e4, zu_ne (by decide), e3, zu_ne (by decide), e2, zu_ne (by decide), e1, zu_ne (by decide), zu_ne (by decide), zu_ne (by decide), zu_ne (by decide)]
    have f26 : ∀ a, V5.1 26 a = if a = m then nI u else T.1 26 a := fun a => by
      rw [e5, zu_ne (by decide), e4, zu_ne (by decide), e3, zu_ne (by decide), e2, zu_ne (by decide), e1, zu_ne (by decide), zu_ne (by decide), zu_ne (by decide), zu_at]
      by_cases w : a = m <;> simp [w]
    have f27 : ∀ a, V5.1 27 a = if a = m then nI d else T.1 27 a := fun a => by
      rw [e5, zu_ne (by decide), e4, zu_ne (by decide), e3, zu_ne (by decide), e2, zu_ne (by decide), e1, zu_ne (by decide), zu_ne (by decide), zu_at, zu_ne (by decide)]
      by_cases w : a = m <;> simp [w]
    have f28 : ∀ a, V5.1 28 a = if a = m then 0 else T.1 28 a := fun a => by
      rw [e5, zu_ne (by decide), e4, zu_ne (by decide), e3, zu_ne (by decide), e2, zu_ne (by decide), e1, zu_at, zu_ne (by decide), zu_ne (by decide), zu_ne (by decide)]
      by_cases w : a = m <;> simp [w]
    have f29 : ∀ a, V5.1 29 a = if a = m then 1000000 else T.1 29 a := fun a => by
      rw [e5, zu_ne (by decide), e4, zu_ne (by decide), e3, zu_ne (by decide), e2, zu_at, e1, zu_ne (by decide), zu_ne (by decide), zu_ne (by decide), zu_ne (by decide)]
      by_cases w : a = m <;> simp [w]
    have f30 : ∀ a, V5.1 30 a = if a = m then 0 else T.1 30 a := fun a => by
      rw [e5, zu_ne (by decide), e4, zu_ne (by decide), e3, zu_at, e2, zu_ne (by decide), e1, zu_ne (by decide), zu_ne (by decide), zu_ne (by decide), zu_ne (by decide)]
      by_cases w : a = m <;> simp [w]
    have f32 : ∀ a, V5.1 32 a = if a = m then 0 else T.1 32 a := fun a => by
      rw [e5, zu_ne (by decide), e4, zu_at, e3, zu_ne (by decide), e2, zu_ne (by decide), e1, zu_ne (by decide), zu_ne (by decide), zu_ne (by decide), zu_ne (by decide)]
      by_cases w : a = m <;> simp [w]
    have f31 : ∀ a, V5.1 31 a = if a = m then 0 else T.1 31 a := fun a => by
      rw [e5, zu_at, e4, zu_ne (by decide), e3, zu_ne (by decide), e2, zu_ne (by decide), e1, zu_ne (by decide), zu_ne (by decide), zu_ne (by decide), zu_ne (by decide)]
      by_cases w : a = m <;> simp [w]
    have eqs : ∀ a, a < m → arcEq T V5 a := fun a ha => by
      have w : a ≠ m := by omega
      refine ⟨?_, ?_, ?_, ?_, ?_, ?_, ?_⟩
      · rw [f26, if_neg w]
      · rw [f27, if_neg w]
      · rw [f28, if_neg w]
      · rw [f29, if_neg w]
      · rw [f30, if_neg w]
      · rw [f31, if_neg w]
      · rw [f32, if_neg w]
    have v26 : V5.1 26 m = nI u := by rw [f26, if_pos rfl]
    have v27 : V5.1 27 m = nI d := by rw [f27, if_pos rfl]
    have vu : uA V5 m = u := by unfold uA; rw [v26]; exact nI_clamp (by omega)
    have vd : dA V5 m = d := by unfold dA; rw [v27]; exact nI_clamp (by omega)
    have vl : lA V5 m = 0 := by unfold lA; rw [f28, if_pos rfl]; exact c0
    have vh : hA V5 m = 1000000 := by unfold hA; rw [f29, if_pos rfl]; exact c6
    have vw : wA V5 m = 0 := by unfold wA; rw [f32, if_pos rfl]; exact c0
    have vx : xA V5 m = 0 := by unfold xA; rw [f31, if_pos rfl]; exact c0
    have hsl : slR V5 s m r := by
      unfold slR
      rw [vu, vd]
      exact hor
    refine q V5 k5 f23 (net_ext hN h18 f3 eqs ?_ (fun v hv => ?_)) eqs ?_ vx ⟨r, hr, h11, vl, vh, vw, by rw [f30, if_pos rfl], hsl⟩ hsl
    · unfold arcOK
      rw [vu, vd, vl, vh, vw, vx]
      exact ⟨hu, hd, v26, v27, by omega, by omega, by omega, by omega, by omega, by omega⟩
    · rw [vx]
      unfold nA
      rw [f33]
      split <;> split <;> omega
    · unfold p0
      rw [vw]
      exact ⟨fun _ => by omega, fun _ => by omega⟩
  unfold X1_layFree
  rw [i_le, hy, c0]
  refine ⟨fun g => x1_addArc hN.2.1 h18 ?_, fun g => x1_addArc hN.2.1 h18 ?_⟩
  · exact fin 8 r (by omega) (by omega) (Or.inr ⟨by omega, rfl, rfl⟩)
  · exact fin r 8 (by omega) (by omega) (Or.inl ⟨by omega, rfl, rfl⟩)
def bR (S : ZS) (s : Nat → Int) (r : Nat) : Int := (S.1 12 r).toInt * s r
def bN (S : ZS) (s : Nat → Int) (nr v : Nat) : Int := if v < nr then bR S s v else if v = 8 then -sI (bR S s) nr else 0
theorem bR_bd {S : ZS} {nc nr r : Nat} {s : Nat → Int} (hC : zC S nc nr) (hs : sgn nr s) (hr : r < nr) : -100000 ≤ bR S s r ∧ bR S s r ≤ 100000 := by
  have h := (hC.2.2.2.2.2.2.2.1 r hr).2.2.2
  unfold zlim at h
  unfold bR
  rcases hs r hr with e | e <;> rw [e] <;> omega
theorem bN_bd {S : ZS} {nc nr v : Nat} {s : Nat → Int} (hC : zC S nc nr) (hs : sgn nr s) : -1000000 ≤ bN S s nr v ∧ bN S s nr v ≤ 1000000 := by
  have h2 := hC.2.1
  have h := sI_le (g := bR S s) (n := nr) (b := 100000) (fun r hr => bR_bd hC hs hr)
  unfold bN
  split
  · have := bR_bd hC hs (r := v) (by assumption); omega
  · split <;> omega
/-- everything that lay() leaves -/
def laid (S T : ZS) (s : Nat → Int) (nc nr m : Nat) : Prop := net T m (bN S s nr) ∧ nc ≤ m ∧ (∀ c, c < nc → colA S T s nr c) ∧ (∀ a, nc ≤ a → a < m → slA S T s nr a) ∧ ∀ r, r < nr → S.1 11 r = 0 → ∃ a, nc ≤ a ∧ a < m ∧ slR T s a r
theorem x1_lay {nc nr : Nat} {s : Nat → Int} {S : ZS} {Q : ZS → Prop} (hC : zC S nc nr) (hfl : flw S nc nr s) (h23 : ∀ r, r < nr → (S.1 23 r).toInt = s r) (q : ∀ T m, zKp S T → T.1 23 = S.1 23 → laid S T s nc nr m → (∀ a, a < m → p0 T a ∧ (nc ≤ a → xA T a = 0)) → Q T) : X1_lay S Q := by
  have h1 := hC.1
  have h2 := hC.2.1
  have c0 : (0 : Int32).toInt = 0 := by decide
  have z8 : (8 : Int32).toNatClampNeg = 8 := by decide
  have hs := hfl.2.1
  unfold X1_lay
  refine m_fill (by omega) (fun S1 _ hS1 hS1' => ?_)
  have k1 : zKp S S1 := zKp.of (fun n hn => hS1 n (fun e => by subst e; cases hn)) (hS1 61 (by decide))
  have zz : ∀ v, v ≤ 8 → nA S1 v = 0 := fun v hv => by unfold nA; rw [hS1' v, if_pos (by omega)]; exact c0
  refine zl_up nr (fun i T => zKp S T ∧ T.1 23 = S.1 23 ∧ (∀ v, v < 8 → nA T v = if v < i then bR S s v else 0) ∧ nA T 8 = -sI (bR S s) i) (by omega) (fun i T k hi hJ hk => ?_) S1 ⟨k1, hS1 23 (by decide), fun v hv => by rw [if_neg (by omega)]; exact zz v (by omega), by rw [zz 8 (by omega)]; rfl⟩
  obtain ⟨kT, t23, tn, t8⟩ := hJ
  have e4 := (hC.kp kT).2.2.2.1
  show X1_lay_B10 (nI i) T Q k
  unfold X1_lay_B10
  rw [e4]
  refine ⟨fun z => ?_, fun z => ?_⟩
  · have := up_end (by omega) hi z
    subst this
    unfold X1_lay_b56
    intro T1 eT1
    have k1 : zKp S T1 := by rw [eT1]; exact kT.u rfl (by decide)
    have o1 : ∀ n, n ≠ 3 → T1.1 n = T.1 n := fun n hn => by rw [eT1, zu_ne hn]
    have net0 : net T1 0 (bN S s i) := by
      refine ⟨by omega, by rw [eT1, zu_at, if_pos ⟨rfl, rfl⟩]; rfl, fun a ha => by omega, fun v hv => ?_, fun v _ => bN_bd hC hs⟩
      have e0 : infl (uA T1) (dA T1) (xA T1) 0 v = 0 := rfl
      rw [e0]
      unfold bN nA
      rw [o1 33 (by decide)]
      by_cases w : v = 8
      · subst w
        rw [if_neg (by omega), if_pos rfl]
        unfold nA at t8
        omega
      · have := tn v (by omega)
        unfold nA at this
        rw [this]
        by_cases w2 : v < i
        · rw [if_pos w2, if_pos w2]; omega
        · rw [if_neg w2, if_neg w2, if_neg w]; omega
    refine zl_up nc (fun j U => zKp S U ∧ U.1 23 = S.1 23 ∧ net U j (bN S s i) ∧ ∀ a, a < j → p0 U a ∧ colA S U s i a) (by omega) (fun j U k2 hj hJ2 hk2 => ?_) T1 ⟨k1, by rw [o1 23 (by decide)]; exact t23, net0, fun a ha => by omega⟩
    obtain ⟨kU, u23, nU, pU⟩ := hJ2
    have e3 := (hC.kp kU).2.2.1
    show X1_lay_B63 (nI j) U Q k2
    unfold X1_lay_B63
    rw [e3]
    refine ⟨fun z2 => ?_, fun z2 => ?_⟩
    · have := up_end (by omega) hj z2
      subst this
      unfold X1_lay_b84
      refine zl_up i (fun r V => zKp S V ∧ V.1 23 = S.1 23 ∧ ∃ m, j ≤ m ∧ m ≤ j + r ∧ net V m (bN S s i) ∧ (∀ a, a < m → p0 V a ∧ (j ≤ a → xA V a = 0)) ∧ (∀ c, c < j → colA S V s i c) ∧ (∀ a, j ≤ a → a < m → slA S V s i a) ∧ ∀ p, p < r → S.1 11 p = 0 → ∃ a, j ≤ a ∧ a < m ∧ slR V s a p) (by omega) (fun r V k3 hr hJ3 hk3 => ?_) U ⟨kU, u23, j, Nat.le_refl _, by omega, nU, fun a ha => ⟨(pU a ha).1, fun g => by omega⟩, fun c hc => (pU c hc).2, fun a ha hb => by omega, fun p hp => by omega⟩
      obtain ⟨kV, v23, m, m1, m2, nV, pV, cV, sV, rV⟩ := hJ3
      have e4' := (hC.kp kV).2.2.2.1
      have v11 : V.1 11 = S.1 11 := kV.1 11 rfl
      show X1_lay_B86 (nI r) V Q k3
      unfold X1_lay_B86 X1_lay_b117 X1_lay_b111
      rw [e4']
      refine ⟨fun z3 => ?_, fun z3 => ?_⟩
      · have := up_end (by omega) hr z3
        subst this
        exact q V m kV v23 ⟨nV, m1, cV, sV, rV⟩ pV
      · have hlt := up_on (by omega) hr z3
        have hvr : vp_in (nI r) 8 := vp_in_nI (by omega) (by omega)
        rw [nI_clamp (by omega), v11]
        refine ⟨hvr, fun g => ⟨hvr, x1_layFree (s := s) kV nV (by omega) hlt (by omega) g (hs r hlt) (by rw [v23]; exact h23 r hlt) (fun W kW w23 nW eqs pW xW sW rW w ew => ?_)⟩, fun g w ew => ?_⟩
        · rw [nI_1] at ew
          subst ew
          refine hk3 hlt W ⟨kW, w23.trans v23, m + 1, by omega, by omega, nW, fun a ha => ?_, fun c hc => (eqs c (by omega)).col (cV c hc), fun a ha hb => ?_, fun p hp hp0 => ?_⟩
          · by_cases e : a = m
            · rw [e]; exact ⟨pW, fun _ => xW⟩
            · refine ⟨(eqs a (by omega)).p (pV a (by omega)).1, fun g => ?_⟩
              have := (pV a (by omega)).2 g
              unfold xA at this ⊢
              rw [(eqs a (by omega)).2.2.2.2.2.1]
              exact this
          · by_cases e : a = m
            · rw [e]; exact sW
            · exact (eqs a (by omega)).kA (sV a ha (by omega))
          · by_cases e : p = r
            · rw [e]; exact ⟨m, m1, by omega, rW⟩
            · obtain ⟨a, a1, a2, a3⟩ := rV p (by omega) hp0
              exact ⟨a, a1, by omega, (eqs a a2).kR a3⟩
        · rw [nI_1] at ew
          subst ew
          refine hk3 hlt V ⟨kV, v23, m, m1, by omega, nV, pV, cV, sV, fun p hp hp0 => ?_⟩
          by_cases e : p = r
          · rw [e] at hp0; exact absurd hp0 g
          · exact rV p (by omega) hp0
    · have hlt := up_on (by omega) hj z2
      refine x1_layColumn hC hfl kU (fun r hr => by rw [u23]; exact h23 r hr) nU pU hlt (fun W kW w23 nW pW w ew => ?_)
      rw [nI_1] at ew
      subst ew
      exact hk2 hlt W ⟨kW, w23.trans u23, nW, pW⟩
  · have hlt := up_on (by omega) hi z
    have hvr : vp_in (nI i) 8 := vp_in_nI (by omega) (by omega)
    have hvn : vp_in (nI i) 9 := vp_in_nI (by omega) (by omega)
    have w12 : T.1 12 = S.1 12 := kT.1 12 rfl
    have hbr := bR_bd hC hs hlt
    have hsum := sI_le (g := bR S s) (n := i) (b := 100000) (fun r hr => bR_bd hC hs (by omega))
    have eb : ((T.1 12 i) * (T.1 23 i)).toInt = bR S s i := by
      have e1 : (T.1 23 i).toInt = s i := by rw [t23]; exact h23 i hlt
      have hr := (hC.2.2.2.2.2.2.2.1 i hlt).2.2.2
      unfold zlim at hr
      rw [w12, i_mul (by rw [e1]; rcases hs i hlt with e | e <;> rw [e] <;> omega) (by rw [e1]; rcases hs i hlt with e | e <;> rw [e] <;> omega), e1]
      rfl
    rw [nI_clamp (by omega), z8]
    refine ⟨hvr, hvr, hvn, fun T1 e1 => ⟨v8, hvn, v8, fun T2 e2 w ew => ?_⟩⟩
    rw [nI_1] at ew
    subst ew
    have a1 : ∀ v, (T1.1 33 v).toInt = if v = i then bR S s i else nA T v := fun v => by
      rw [e1, zu_at]
      by_cases w : v = i
      · rw [if_pos ⟨rfl, w⟩, if_pos w, eb]
      · rw [if_neg (fun z => w z.2), if_neg w]; rfl
    have a8 : (T1.1 33 8).toInt = -sI (bR S s) i := by rw [a1, if_neg (by omega)]; exact t8
    have ai : (T1.1 33 i).toInt = bR S s i := by rw [a1, if_pos rfl]
    have k2 : zKp S T2 := by rw [e2, e1]; exact (kT.u rfl (by decide)).u rfl (by decide)
    refine hk hlt T2 ⟨k2, by rw [e2, zu_ne (by decide), e1, zu_ne (by decide)]; exact t23, fun v hv => ?_, ?_⟩
    · unfold nA
      rw [e2, zu_at, if_neg (by omega), a1]
      by_cases w : v = i
      · rw [if_pos w, if_pos (by omega), w]
      · rw [if_neg w, tn v hv]
        by_cases w2 : v < i
        · rw [if_pos w2, if_pos (by omega)]
        · rw [if_neg w2, if_neg (by omega)]
    · unfold nA
      rw [e2, zu_at, if_pos ⟨rfl, rfl⟩, i_sub (by rw [a8, ai]; omega) (by rw [a8, ai]; omega), a8, ai, sI_s]
      omega
