/-! the reference's keepBest(): the points of least value, and no others -/
def piN (U : ZS) (nr v : Nat) : Int := faT U (rn nr v)
def dC (S U : ZS) (s : Nat → Int) (nr c : Nat) : Int := cst S c - piN U nr (upc S s nr c) + piN U nr (dnc S s nr c)
theorem pfa.prC {S U : ZS} {s x : Nat → Int} {nc nr : Nat} (h : pfa S U s nc nr x) : prC (cst S) (piN U nr) (loc S) (hic S) x (upc S s nr) (dnc S s nr) nc := fun c hc => by
  refine ⟨fun g => ?_, fun g => ?_⟩
  · have := h.1 _ _ _ _ (Or.inl ⟨c, hc, g, rfl, rfl, rfl, rfl⟩)
    unfold piN
    omega
  · have := h.1 _ _ _ _ (Or.inr (Or.inl ⟨c, hc, g, rfl, rfl, rfl, rfl⟩))
    unfold piN
    omega
theorem pfa.prS {S U : ZS} {s x : Nat → Int} {nc nr : Nat} (hs : sgn nr s) (h : pfa S U s nc nr x) : prS s (piN U nr) (kap S) (gg S s) (bR S s) nr nc x := fun r hr k => by
  have a := h.1 _ _ _ _ (Or.inr (Or.inr (Or.inl ⟨r, hr, k, rfl, rfl, rfl, rfl⟩)))
  unfold uS dS at a
  rcases hs r hr with e | e
  · rw [if_pos e, if_pos e] at a
    refine ⟨by rw [e]; unfold piN; omega, fun g => ?_⟩
    have b := h.1 _ _ _ _ (Or.inr (Or.inr (Or.inr ⟨r, hr, k, g, rfl, rfl, rfl, rfl⟩)))
    unfold uS dS at b
    rw [if_pos e, if_pos e] at b
    unfold piN
    omega
  · have e1 : ¬ s r = 1 := by omega
    rw [if_neg e1, if_neg e1] at a
    refine ⟨by rw [e]; unfold piN; omega, fun g => ?_⟩
    have b := h.1 _ _ _ _ (Or.inr (Or.inr (Or.inr ⟨r, hr, k, g, rfl, rfl, rfl, rfl⟩)))
    unfold uS dS at b
    rw [if_neg e1, if_neg e1] at b
    unfold piN
    omega
/-- the bounds and kinds that keepBest() leaves -/
def kpB (S U : ZS) (s : Nat → Int) (nc nr : Nat) : Prop := (∀ c, c < nc → loT U c = (if dC S U s nr c < 0 then hic S c else loc S c) ∧ hiT U c = (if 0 < dC S U s nr c then loc S c else hic S c)) ∧ ∀ r, r < nr → (kaT U r ↔ (kap S r ∧ piN U nr r = piN U nr 8))
theorem kpB_in {S U : ZS} {s x : Nat → Int} {nc nr : Nat} (hs : sgn nr s) (hk : kpB S U s nc nr) (h : pfa S U s nc nr x) (hx : ptS S s nc nr x) : pt (gg S s) (bR S s) s (kaT U) nr nc (loT U) (hiT U) x := by
  refine ⟨fun c hc => ?_, fun r hr => ⟨fun k => ?_, fun k => ?_⟩⟩
  · have p := h.prC c hc
    have b := hx.1 c hc
    rw [(hk.1 c hc).1, (hk.1 c hc).2]
    unfold dC
    split <;> split <;> omega
  · exact (hx.2 r hr).1 ((hk.2 r hr).mp k).1
  · by_cases g : kap S r
    · have p := (h.prS hs r hr g).2
      have b := (hx.2 r hr).1 g
      have : ¬ 0 < s r * ev (gg S s) (bR S s) nc x r := fun z => k ((hk.2 r hr).mpr ⟨g, p z⟩)
      rcases hs r hr with e | e <;> rw [e] at b this <;> omega
    · exact (hx.2 r hr).2 g
theorem kpB_out {S U : ZS} {s y : Nat → Int} {nc nr : Nat} (hk : kpB S U s nc nr) (hlh : ∀ c, c < nc → loc S c ≤ hic S c) (hs : sgn nr s) (hy : pt (gg S s) (bR S s) s (kaT U) nr nc (loT U) (hiT U) y) : ptS S s nc nr y := by
  refine ⟨fun c hc => ?_, fun r hr => ⟨fun k => ?_, fun k => (hy.2 r hr).2 (fun z => k ((hk.2 r hr).mp z).1)⟩⟩
  · have b := hy.1 c hc
    have l := hlh c hc
    rw [(hk.1 c hc).1, (hk.1 c hc).2] at b
    by_cases g1 : dC S U s nr c < 0
    · rw [if_pos g1, if_neg (by omega)] at b; omega
    · rw [if_neg g1] at b
      by_cases g2 : 0 < dC S U s nr c
      · rw [if_pos g2] at b; omega
      · rw [if_neg g2] at b; omega
  · by_cases g : kaT U r
    · exact (hy.2 r hr).1 g
    · rw [(hy.2 r hr).2 g, Int.mul_zero]; exact Int.le_refl _
theorem sI_z {f : Nat → Int} {n : Nat} (h : ∀ x, x < n → 0 ≤ f x) (h0 : sI f n ≤ 0) : ∀ x, x < n → f x = 0 := fun x hx => by
  have := sI_lea h hx
  have := h x hx
  omega
theorem kpB_best {S U : ZS} {s x z : Nat → Int} {nc nr : Nat} (h2 : nr ≤ 8) (hfl : flw S nc nr s) (hk : kpB S U s nc nr) (h : pfa S U s nc nr x) (hx : ptS S s nc nr x) (hlh : ∀ c, c < nc → loc S c ≤ hic S c) (hz : lxm (pt (gg S s) (bR S s) s (kaT U) nr nc (loT U) (hiT U)) nc z) : bstP (ptS S s nc nr) (cst S) nc z ∧ pfa S U s nc nr z := by
  have hs := hfl.2.1
  have he := ends_c hfl h2
  have hu : eds nr nc (upc S s nr) (dnc S s nr) := fun c _ => ends_8
  have pc := h.prC
  have ps := h.prS hs
  have hzP := kpB_out hk hlh hs hz.1
  have tc : ∀ y, ptS S s nc nr y → ∀ c, c < nc → 0 ≤ (cst S c - piN U nr (upc S s nr c) + piN U nr (dnc S s nr c)) * (y c - x c) := fun y hy c hc => term_c pc hc (hx.1 c hc) (hy.1 c hc)
  have trr : ∀ y, ptS S s nc nr y → ∀ r, r < nr → 0 ≤ (piN U nr r - piN U nr 8) * (ev (gg S s) (bR S s) nc x r - ev (gg S s) (bR S s) nc y r) := fun y hy r hr => term_r hs ps hr hx.2 hy.2
  have dl : ∀ y, valI (cst S) y nc - valI (cst S) x nc = sI (fun c => (cst S c - piN U nr (upc S s nr c) + piN U nr (dnc S s nr c)) * (y c - x c)) nc + sI (fun r => (piN U nr r - piN U nr 8) * (ev (gg S s) (bR S s) nc x r - ev (gg S s) (bR S s) nc y r)) nr := fun y => dual (b := bR S s) (w := cst S) (x := x) (y := y) (π := piN U nr) he hu h2
  -- where the value is the least, the point is kept
  have keep : ∀ y, ptS S s nc nr y → valI (cst S) y nc ≤ valI (cst S) x nc → pt (gg S s) (bR S s) s (kaT U) nr nc (loT U) (hiT U) y := fun y hy hv => by
    have d := dl y
    have n1 := sI_nn (n := nc) (fun c hc => tc y hy c hc)
    have n2 := sI_nn (n := nr) (fun r hr => trr y hy r hr)
    have z1 := sI_z (n := nc) (fun c hc => tc y hy c hc) (by omega)
    have z2 := sI_z (n := nr) (fun r hr => trr y hy r hr) (by omega)
    refine ⟨fun c hc => ?_, fun r hr => ⟨fun k => ?_, fun k => ?_⟩⟩
    · have b := hy.1 c hc
      have bx := hx.1 c hc
      have p := pc c hc
      have z := z1 c hc
      rw [(hk.1 c hc).1, (hk.1 c hc).2]
      unfold dC
      rcases Int.mul_eq_zero.mp z with e | e
      · rw [e, if_neg (by omega), if_neg (by omega)]; exact b
      · split <;> split <;> omega
    · exact (hy.2 r hr).1 ((hk.2 r hr).mp k).1
    · by_cases g : kap S r
      · have ne : ¬ piN U nr r = piN U nr 8 := fun e => k ((hk.2 r hr).mpr ⟨g, e⟩)
        have ex := ((kpB_in hs hk h hx).2 r hr).2 k
        rcases Int.mul_eq_zero.mp (z2 r hr) with e | e
        · omega
        · omega
      · exact (hy.2 r hr).2 g
  have least : ∀ y, ptS S s nc nr y → valI (cst S) x nc ≤ valI (cst S) y nc := fun y hy => least_w hs h2 he hu pc ps hx hy
  have vz : valI (cst S) z nc ≤ valI (cst S) x nc := by
    have d := dl z
    have a1 : sI (fun c => (cst S c - piN U nr (upc S s nr c) + piN U nr (dnc S s nr c)) * (z c - x c)) nc = 0 := by
      rw [sI_congr (h := fun _ => 0) (fun c hc => ?_), sI_0]
      have bz := hz.1.1 c hc
      have bx := (kpB_in hs hk h hx).1 c hc
      have l := hlh c hc
      rw [(hk.1 c hc).1, (hk.1 c hc).2] at bz bx
      unfold dC at bz bx
      by_cases g1 : cst S c - piN U nr (upc S s nr c) + piN U nr (dnc S s nr c) < 0
      · rw [if_pos g1, if_neg (by omega)] at bz bx
        rw [show z c - x c = 0 by omega, Int.mul_zero]
      · rw [if_neg g1] at bz bx
        by_cases g2 : 0 < cst S c - piN U nr (upc S s nr c) + piN U nr (dnc S s nr c)
        · rw [if_pos g2] at bz bx
          rw [show z c - x c = 0 by omega, Int.mul_zero]
        · rw [show cst S c - piN U nr (upc S s nr c) + piN U nr (dnc S s nr c) = 0 by omega, Int.zero_mul]
    have a2 : sI (fun r => (piN U nr r - piN U nr 8) * (ev (gg S s) (bR S s) nc x r - ev (gg S s) (bR S s) nc z r)) nr = 0 := by
      rw [sI_congr (h := fun _ => 0) (fun r hr => ?_), sI_0]
      by_cases g : kaT U r
      · rw [((hk.2 r hr).mp g).2, Int.sub_self, Int.zero_mul]
      · rw [((kpB_in hs hk h hx).2 r hr).2 g, (hz.1.2 r hr).2 g, Int.sub_self, Int.mul_zero]
    omega
  refine ⟨⟨hzP, fun y hy => ?_⟩, fun t h' w o k => ?_, h.2⟩
  · have l1 := least y hy
    rcases Int.lt_or_le (valI (cst S) z nc) (valI (cst S) y nc) with g | g
    · exact Or.inl g
    · exact Or.inr ⟨by omega, hz.2 y (keep y hy (by omega))⟩
  · rcases k with ⟨c, a1, a2, a3, a4, a5, a6⟩ | ⟨c, a1, a2, a3, a4, a5, a6⟩ | k | ⟨r, a1, a2, a3, a4, a5, a6, a7⟩
    · have b := hz.1.1 c a1
      rw [(hk.1 c a1).1] at b
      have : ¬ dC S U s nr c < 0 := fun g => by rw [if_pos g] at b; omega
      unfold dC piN at this
      rw [a3, a4, a5]; omega
    · have b := hz.1.1 c a1
      rw [(hk.1 c a1).2] at b
      have : ¬ 0 < dC S U s nr c := fun g => by rw [if_pos g] at b; omega
      unfold dC piN at this
      rw [a3, a4, a5]; omega
    · exact h.1 t h' w o (Or.inr (Or.inr (Or.inl k)))
    · have : kaT U r := by
        refine Classical.byContradiction (fun g => ?_)
        rw [(hz.1.2 r a1).2 g, Int.mul_zero] at a3
        omega
      have e := ((hk.2 r a1).mp this).2
      unfold piN at e
      rw [a4, a5, a6]
      unfold uS dS
      by_cases g : s r = 1
      · rw [if_pos g, if_pos g]; omega
      · rw [if_neg g, if_neg g]; omega
set_option maxHeartbeats 1000000 in
theorem x7_keepBest {nc nr : Nat} {s : Nat → Int} {S T : ZS} {Q : ZS → Prop} (hC : zC S nc nr) (hfl : flw S nc nr s) (hT : rSg S T s nr) (hf : ∀ v, v < nr + 1 → -100000000 ≤ faT T v ∧ faT T v ≤ 100000000)
    (q : ∀ U, (∀ n, n ≠ 72 → n ≠ 73 → n ≠ 74 → U.1 n = T.1 n) → U.2 = T.2 → kpB S U s nc nr → Q U) : X7_keepBest T Q := by
  have h1 := hC.1
  have h2 := hC.2.1
  have z0 : (0 : Int64).toInt = 0 := by decide
  have rl : ∀ v, rn nr v ≤ nr := fun v => by unfold rn; split <;> omega
  unfold X7_keepBest
  refine x7_begin hC hT.1 (fun T1 k1 f1 t1 c1 r1 => ?_)
  have pe : ∀ V : ZS, V.2 = T.2 → ∀ v, piN V nr v = piN T nr v := fun V e v => by unfold piN faT; rw [e]
  have dce : ∀ V : ZS, V.2 = T.2 → ∀ c, dC S V s nr c = dC S T s nr c := fun V e c => by unfold dC; rw [pe V e, pe V e]
  refine zl_up nc (fun i U => (∀ n, n ≠ 72 → n ≠ 73 → n ≠ 74 → U.1 n = T.1 n) ∧ U.2 = T.2 ∧ (∀ c, c < i → loT U c = (if dC S T s nr c < 0 then hic S c else loc S c) ∧ hiT U c = (if 0 < dC S T s nr c then loc S c else hic S c)) ∧ (∀ c, i ≤ c → c < nc → loT U c = loc S c ∧ hiT U c = hic S c) ∧ ∀ r, r < nr → U.1 74 r = S.1 11 r) (by omega) (fun i U k hi hJ hk2 => ?_) T1 ⟨f1, t1, fun c hc => by omega, fun c _ hc => by unfold loT hiT loc hic; rw [(c1 c hc).1, (c1 c hc).2]; exact ⟨rfl, rfl⟩, r1⟩
  obtain ⟨fU, u2, dU, oU, rU⟩ := hJ
  have sgU : ∀ V : ZS, (∀ n, n ≠ 72 → n ≠ 73 → n ≠ 74 → V.1 n = T.1 n) → rSg S V s nr := fun V fV => ⟨hT.1.tr (zKp.of (fun n hn => fV n (fun e => by subst e; cases hn) (fun e => by subst e; cases hn) (fun e => by subst e; cases hn)) (fV 61 (by decide) (by decide) (by decide))), fun r hr => by rw [fV 71 (by decide) (by decide) (by decide)]; exact hT.2 r hr⟩
  have gU := sgU U fU
  have hU := hC.kp gU.1
  show X7_keepBest_B6 (nI i) U Q k
  unfold X7_keepBest_B6
  rw [hU.2.2.2.2.1]
  refine ⟨fun z => ?_, fun z => ?_⟩
  · have := up_end (by omega) hi z
    subst this
    unfold X7_keepBest_b91
    refine zl_up nr (fun j V => (∀ n, n ≠ 74 → V.1 n = U.1 n) ∧ V.2 = T.2 ∧ (∀ r, r < j → (V.1 74 r = 0 ↔ (kap S r ∧ piN T nr r = piN T nr 8))) ∧ ∀ r, j ≤ r → r < nr → V.1 74 r = S.1 11 r) (by omega) (fun j V k3 hj hJ3 hk3 => ?_) U ⟨fun _ _ => rfl, u2, fun r hr => by omega, fun r _ hr => rU r hr⟩
    obtain ⟨fV, v2, dV, oV⟩ := hJ3
    have fVT : ∀ n, n ≠ 72 → n ≠ 73 → n ≠ 74 → V.1 n = T.1 n := fun n a b c => by rw [fV n c]; exact fU n a b c
    have gV := sgU V fVT
    have hV := hC.kp gV.1
    show X7_keepBest_B93 (nI j) V Q k3
    unfold X7_keepBest_B93 X7_keepBest_b142
    rw [hV.2.2.2.2.2.1]
    refine ⟨fun z => ?_, fun z => ?_⟩
    · have := up_end (by omega) hj z
      subst this
      refine q V fVT v2 ⟨fun c hc => ?_, fun r hr => ?_⟩
      · rw [dce V v2]
        unfold loT hiT
        rw [fV 72 (by decide), fV 73 (by decide)]
        exact dU c hc
      · rw [pe V v2, pe V v2]
        exact dV r hr
    · have hlt := up_on (by omega) hj z
      have hv : vp_in (nI j) 8 := vp_in_nI (by omega) (by omega)
      have b135 : ∀ t0 : Int32, (t0 = 0 ↔ (kap S j ∧ piN T nr j = piN T nr 8)) → X7_keepBest_b135 (nI j) t0 (nI j) V Q k3 := by
        intro t0 ht0
        unfold X7_keepBest_b135
        rw [nI_clamp (by omega)]
        refine ⟨hv, fun W eW w ew => ?_⟩
        rw [nI_1] at ew
        subst ew
        refine hk3 hlt W ⟨fun n hn => by rw [eW, zu_ne hn]; exact fV n hn, by rw [eW]; exact v2, fun r hr => ?_, fun r hr hr2 => ?_⟩
        · rw [eW, zu_at]
          by_cases e : r = j
          · rw [if_pos ⟨rfl, e⟩, e]; exact ht0
          · rw [if_neg (fun z => e z.2)]; exact dV r (by omega)
        · rw [eW, zu_at, if_neg (fun z => by omega)]
          exact oV r (by omega) hr2
      have pj : piN T nr j = faT T j := by unfold piN rn; rw [if_pos hlt]
      have p8 : piN T nr 8 = faT T nr := by unfold piN rn; rw [if_neg (by omega)]
      have h65 : V.1 65 j = S.1 11 j := by rw [(hV.2.2.2.2.2.2.2.1 j hlt).1, gV.1.1 11 rfl]
      rw [nI_clamp (by omega), nI_clamp (by omega), v2, lg_eq]
      refine ⟨vp_in_nI (by omega) (by omega), vp_in_nI (by omega) (by omega), fun g => ⟨hv, b135 _ ?_⟩, fun g => b135 _ ?_⟩
      · rw [h65, pj, p8]
        have : faT T j = faT T nr := by unfold faT; rw [g]
        exact ⟨fun w => ⟨w, this⟩, fun w => w.1⟩
      · rw [pj, p8]
        refine ⟨fun w => absurd w (by decide), fun w => absurd (Int64.toInt_inj.mp w.2) g⟩
  · have hlt := up_on (by omega) hi z
    have hv : vp_in (nI i) 10 := vp_in_nI (by omega) (by omega)
    have h64 : (U.1 64 i).toInt = cst S i := by rw [gU.1.1 64 rfl, (hC.2.2.2.2.2.2.1 i hlt).2.2.1]; rfl
    have cb := (hC.2.2.2.2.2.2.1 i hlt).2.2.2.2
    unfold zlim at cb
    have cb2 : -1000 ≤ cst S i ∧ cst S i ≤ 1000 := cb
    have o := oU i (Nat.le_refl _) hlt
    have nx : ∀ V : ZS, (∀ n, n ≠ 72 → n ≠ 73 → V.1 n = U.1 n) → V.2 = U.2 → (∀ c, c ≠ i → loT V c = loT U c ∧ hiT V c = hiT U c) → loT V i = (if dC S T s nr i < 0 then hic S i else loc S i) → hiT V i = (if 0 < dC S T s nr i then loc S i else hic S i) → X7_keepBest_b85 (nI i) V Q k := by
      intro V fV v2 oV l1 l2
      unfold X7_keepBest_b85
      intro w ew
      rw [nI_1] at ew
      subst ew
      refine hk2 hlt V ⟨fun n a b c => by rw [fV n a b]; exact fU n a b c, v2.trans u2, fun c hc => ?_, fun c hc hc2 => ?_, fun r hr => by rw [fV 74 (by decide) (by decide)]; exact rU r hr⟩
      · by_cases e : c = i
        · rw [e]; exact ⟨l1, l2⟩
        · rw [(oV c e).1, (oV c e).2]; exact dU c (by omega)
      · rw [(oV c (by omega)).1, (oV c (by omega)).2]; exact oU c (by omega) hc2
    refine ⟨hv, x7_endUp hC hfl gU hlt ⟨vp_in_nI (by have := rl (upc S s nr i); omega) (by omega), x7_endDn hC hfl gU hlt ⟨vp_in_nI (by have := rl (dnc S s nr i); omega) (by omega), fun x ex => ?_⟩⟩⟩
    have f1 := hf (rn nr (upc S s nr i)) (by have := rl (upc S s nr i); omega)
    have f2 := hf (rn nr (dnc S s nr i)) (by have := rl (dnc S s nr i); omega)
    rw [nI_clamp (by omega), nI_clamp (by have := rl (upc S s nr i); omega), nI_clamp (by have := rl (dnc S s nr i); omega), u2] at ex
    have xe : x.toInt = dC S T s nr i := by
      have e1 : (Int32.toInt64 (U.1 64 i) - T.2 79 (rn nr (upc S s nr i))).toInt = cst S i - faT T (rn nr (upc S s nr i)) := by
        rw [Int64.toInt_sub, l_i, h64]
        exact l_bm (by show _ ≤ cst S i - faT T _; omega) (by show cst S i - faT T _ ≤ _; omega)
      rw [ex, l_add (by rw [e1]; show _ ≤ cst S i - faT T _ + faT T _; omega) (by rw [e1]; show cst S i - faT T _ + faT T _ ≤ _; omega), e1]
      rfl
    rw [nI_clamp (by omega)]
    have gle : lg_cmp x (0 : Int64) ≤ 0 ↔ dC S T s nr i ≤ 0 := by
      have := lg_gt (x := x) (y := (0 : Int64))
      rw [z0, xe] at this
      rw [← Int32.not_lt, this]
      omega
    have gge : 0 ≤ lg_cmp x (0 : Int64) ↔ 0 ≤ dC S T s nr i := by rw [lg_ge, z0, xe]
    rw [gle, gge]
    refine ⟨fun g => ⟨fun g2 => ?_, fun g2 => ⟨hv, hv, fun V eV => ?_⟩⟩, fun g => ⟨hv, hv, fun V eV => ?_⟩⟩
    · refine nx U (fun _ _ _ => rfl) rfl (fun _ _ => ⟨rfl, rfl⟩) ?_ ?_
      · rw [if_neg (by omega)]; exact o.1
      · rw [if_neg (by omega)]; exact o.2
    · refine nx V (fun n a b => by rw [eV, zu_ne a]) (by rw [eV]; rfl) (fun c hc => ?_) ?_ ?_
      · unfold loT hiT
        rw [eV, zu_at, if_neg (fun z => hc z.2), zu_ne (by decide)]
        exact ⟨rfl, rfl⟩
      · rw [if_pos (by omega)]
        unfold loT
        rw [eV, zu_at, if_pos ⟨rfl, rfl⟩]
        exact o.2
      · rw [if_neg (by omega)]
        unfold hiT
        rw [eV, zu_ne (by decide)]
        exact o.2
    · refine nx V (fun n a b => by rw [eV, zu_ne b]) (by rw [eV]; rfl) (fun c hc => ?_) ?_ ?_
      · unfold loT hiT
        rw [eV, zu_ne (by decide), zu_at, if_neg (fun z => hc z.2)]
        exact ⟨rfl, rfl⟩
      · rw [if_neg (by omega)]
        unfold loT
        rw [eV, zu_ne (by decide)]
        exact o.1
      · rw [if_pos (by omega)]
        unfold hiT
        rw [eV, zu_at, if_pos ⟨rfl, rfl⟩]
        exact o.1
