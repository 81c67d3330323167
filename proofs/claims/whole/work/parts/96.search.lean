/-! the class's search for a set that shows it -/
theorem x3_isIn {k r : Nat} {S : ZS} {Q : Int32 → ZS → Prop} (hk : k < 256) (hr : r < 8) (q1 : k.testBit r = true → Q 1 S) (q0 : ¬ k.testBit r = true → Q 0 S) : X3_isIn (nI k) (nI r) S Q := by
  unfold X3_isIn X3_isIn_b14
  rw [(bit_at k hk r hr).1]
  exact ⟨fun g => ⟨Or.inr rfl, q1 g⟩, fun g => ⟨Or.inl rfl, q0 g⟩⟩
theorem gg_T {S T : ZS} {nc nr r c : Nat} {s : Nat → Int} (hfl : flw S nc nr s) (hk : zKp S T) (h23 : ∀ r, r < nr → (T.1 23 r).toInt = s r) (h2 : nr ≤ 8) (hr : r < nr) (hc : c < nc) : (T.1 (14 + r) c * T.1 23 r).toInt = gg S s r c := by
  have eA : (T.1 (14 + r) c).toInt = aC S r c := by unfold aC; rw [hk.1 (14 + r) (kpt_row (by omega))]
  have hb := (hfl.1 c hc).1 r hr
  rw [i_mul (by rw [eA, h23 r hr]; rcases hfl.2.1 r hr with e | e <;> rw [e] <;> omega) (by rw [eA, h23 r hr]; rcases hfl.2.1 r hr with e | e <;> rw [e] <;> omega), eA, h23 r hr]
  rfl
theorem bR_T {S T : ZS} {nc nr r : Nat} {s : Nat → Int} (hC : zC S nc nr) (hs : sgn nr s) (hk : zKp S T) (h23 : ∀ r, r < nr → (T.1 23 r).toInt = s r) (hr : r < nr) : (T.1 12 r * T.1 23 r).toInt = bR S s r := by
  have hl := (hC.2.2.2.2.2.2.2.1 r hr).2.2.2
  unfold zlim at hl
  rw [hk.1 12 rfl, i_mul (by rw [h23 r hr]; rcases hs r hr with e | e <;> rw [e] <;> omega) (by rw [h23 r hr]; rcases hs r hr with e | e <;> rw [e] <;> omega), h23 r hr]
  rfl
theorem x3_addUp {nc nr c k : Nat} {s : Nat → Int} {S T : ZS} {Q : Int32 → ZS → Prop} (hC : zC S nc nr) (hfl : flw S nc nr s) (hk : zKp S T) (h23 : ∀ r, r < nr → (T.1 23 r).toInt = s r) (hk8 : k < 256) (hc : c < nc) (q : ∀ v : Int32, v.toInt = aS (gg S s) nr k c → Q v T) : X3_addUp (nI k) (nI c) T Q := by
  have h1 := hC.1
  have h2 := hC.2.1
  have c0 : (0 : Int32).toInt = 0 := by decide
  unfold X3_addUp
  refine zl_up2 nr (fun i x U => U = T ∧ x.toInt = sI (fun r => if k.testBit r = true then gg S s r c else 0) i) (by omega) (fun i x U k2 hi hJ hk2 => ?_) 0 T ⟨rfl, c0⟩
  obtain ⟨rfl, hx⟩ := hJ
  show X3_addUp_B6 (nI k) (nI c) x (nI i) U Q k2
  unfold X3_addUp_B6 X3_addUp_b50 X3_addUp_b44
  rw [(hC.kp hk).2.2.2.1]
  refine ⟨fun z => ?_, fun z => ?_⟩
  · have := up_end (by omega) hi z
    subst this
    exact q x hx
  · have hlt := up_on (by omega) hi z
    have hvr : vp_in (nI i) 8 := vp_in_nI (by omega) (by omega)
    have go : ∀ x' w : Int32, x'.toInt = sI (fun r => if k.testBit r = true then gg S s r c else 0) (i + 1) → w = nI i + 1 → k2 (x', w, U) := by
      intro x' w a ew
      rw [nI_1] at ew
      subst ew
      exact hk2 hlt _ _ ⟨rfl, a⟩
    have bd := sI_le (g := fun r => if k.testBit r = true then gg S s r c else 0) (n := i) (b := 1) (fun r hr => by
      have := gg_3 hfl (r := r) (by omega) hc
      split <;> omega)
    have g3 := gg_3 hfl hlt hc
    refine x3_isIn hk8 (by omega) (fun t => ⟨fun h => absurd h (by decide), fun _ => ⟨hvr, vp_in_nI (by omega) (by omega), hvr, fun x' ex w ew => go x' w ?_ ew⟩⟩) (fun t => ⟨fun _ w ew => go x w ?_ ew, fun h => absurd rfl h⟩)
    · rw [nI_clamp (by omega), nI_clamp (by omega)] at ex
      have gt := gg_T hfl hk h23 h2 hlt hc
      rw [ex, i_add (by rw [gt, hx]; omega) (by rw [gt, hx]; omega), gt, hx, sI_s, if_pos t]
    · rw [hx, sI_s, if_neg t]; omega
theorem x3_addRights {nc nr k : Nat} {s : Nat → Int} {S T : ZS} {Q : Int32 → ZS → Prop} (hC : zC S nc nr) (hs : sgn nr s) (hk : zKp S T) (h23 : ∀ r, r < nr → (T.1 23 r).toInt = s r) (hk8 : k < 256) (q : ∀ v : Int32, v.toInt = rgtS (bR S s) nr k → Q v T) : X3_addRights (nI k) T Q := by
  have h2 := hC.2.1
  have c0 : (0 : Int32).toInt = 0 := by decide
  unfold X3_addRights
  refine zl_up2 nr (fun i x U => U = T ∧ x.toInt = sI (fun r => if k.testBit r = true then bR S s r else 0) i) (by omega) (fun i x U k2 hi hJ hk2 => ?_) 0 T ⟨rfl, c0⟩
  obtain ⟨rfl, hx⟩ := hJ
  show X3_addRights_B6 (nI k) x (nI i) U Q k2
  unfold X3_addRights_B6 X3_addRights_b47 X3_addRights_b41
  rw [(hC.kp hk).2.2.2.1]
  refine ⟨fun z => ?_, fun z => ?_⟩
  · have := up_end (by omega) hi z
    subst this
    exact q x hx
  · have hlt := up_on (by omega) hi z
    have hvr : vp_in (nI i) 8 := vp_in_nI (by omega) (by omega)
    have go : ∀ x' w : Int32, x'.toInt = sI (fun r => if k.testBit r = true then bR S s r else 0) (i + 1) → w = nI i + 1 → k2 (x', w, U) := by
      intro x' w a ew
      rw [nI_1] at ew
      subst ew
      exact hk2 hlt _ _ ⟨rfl, a⟩
    have bd := sI_le (g := fun r => if k.testBit r = true then bR S s r else 0) (n := i) (b := 100000) (fun r hr => by
      have := bR_bd hC hs (r := r) (by omega)
      split <;> omega)
    have g3 := bR_bd hC hs hlt
    refine x3_isIn hk8 (by omega) (fun t => ⟨fun h => absurd h (by decide), fun _ => ⟨hvr, hvr, fun x' ex w ew => go x' w ?_ ew⟩⟩) (fun t => ⟨fun _ w ew => go x w ?_ ew, fun h => absurd rfl h⟩)
    · rw [nI_clamp (by omega)] at ex
      have gt := bR_T hC hs hk h23 hlt
      rw [ex, i_add (by rw [gt, hx]; omega) (by rw [gt, hx]; omega), gt, hx, sI_s, if_pos t]
    · rw [hx, sI_s, if_neg t]; omega
theorem x3_mayStand {nc nr k : Nat} {s : Nat → Int} {x4 : Int32} {S T : ZS} {Q : Int32 → ZS → Prop} (hC : zC S nc nr) (hk : zKp S T) (h23 : ∀ r, r < nr → (T.1 23 r).toInt = s r) (hk8 : k < 256) (q1 : mayS (kap S) s nr x4.toInt k → Q 1 T) (q0 : ¬ mayS (kap S) s nr x4.toInt k → Q 0 T) : X3_mayStand (nI k) x4 T Q := by
  have h2 := hC.2.1
  unfold X3_mayStand
  refine zl_up nr (fun i U => U = T ∧ ∀ r, r < i → kap S r → k.testBit r = true → s r = x4.toInt) (by omega) (fun i U k2 hi hJ hk2 => ?_) T ⟨rfl, fun r hr => by omega⟩
  obtain ⟨rfl, hj⟩ := hJ
  show X3_mayStand_B3 (nI k) x4 (nI i) U Q k2
  unfold X3_mayStand_B3 X3_mayStand_b35 X3_mayStand_b60
  rw [(hC.kp hk).2.2.2.1]
  refine ⟨fun z => ?_, fun z => ?_⟩
  · have := up_end (by omega) hi z
    subst this
    exact ⟨Or.inr rfl, q1 hj⟩
  · have hlt := up_on (by omega) hi z
    have hvr : vp_in (nI i) 8 := vp_in_nI (by omega) (by omega)
    have e11 : U.1 11 = S.1 11 := hk.1 11 rfl
    have nx : (kap S i → k.testBit i = true → s i = x4.toInt) → ∀ w : Int32, w = nI i + 1 → k2 (w, U) := by
      intro hc w ew
      rw [nI_1] at ew
      subst ew
      refine hk2 hlt _ ⟨rfl, fun r hr a b => ?_⟩
      by_cases e : r = i
      · rw [e] at a b ⊢; exact hc a b
      · exact hj r (by omega) a b
    have f0 : (kap S i → k.testBit i = true → s i = x4.toInt) → X3_mayStand_b36 (nI k) x4 (nI i) 0 U Q k2 := by
      intro hc
      unfold X3_mayStand_b36 X3_mayStand_b54
      exact ⟨fun _ w ew => nx hc w ew, fun h => absurd rfl h⟩
    have f1 : kap S i → k.testBit i = true → X3_mayStand_b36 (nI k) x4 (nI i) 1 U Q k2 := by
      intro ha hb
      unfold X3_mayStand_b36 X3_mayStand_b54 X3_mayStand_b52
      have eq : U.1 23 i = x4 ↔ s i = x4.toInt := by rw [i_eq, h23 i hlt]
      rw [nI_clamp (by omega), eq]
      exact ⟨fun h => absurd h (by decide), fun _ => ⟨hvr, fun g w ew => nx (fun _ _ => g) w ew, fun g => ⟨Or.inl rfl, q0 (fun h => g (h i hlt ha hb))⟩⟩⟩
    rw [nI_clamp (by omega), e11]
    refine ⟨hvr, fun g => x3_isIn hk8 (by omega) (fun t => ⟨fun h => absurd h (by decide), fun _ => f1 g t⟩) (fun t => ⟨fun _ => f0 (fun _ w => absurd w t), fun h => absurd rfl h⟩), fun g => f0 (fun w _ => absurd w g)⟩
theorem x3_provingSide {nc nr k : Nat} {s : Nat → Int} {S T : ZS} {Q : Int32 → ZS → Prop} (hC : zC S nc nr) (hfl : flw S nc nr s) (hk : zKp S T) (h23 : ∀ r, r < nr → (T.1 23 r).toInt = s r) (hk8 : k < 256)
    (q1 : sh1 (gg S s) (bR S s) s (kap S) nr nc (loc S) (hic S) k → Q 1 T) (q2 : ¬ sh1 (gg S s) (bR S s) s (kap S) nr nc (loc S) (hic S) k → sh2 (gg S s) (bR S s) s (kap S) nr nc (loc S) (hic S) k → Q (-1) T) (q0 : ¬ sh1 (gg S s) (bR S s) s (kap S) nr nc (loc S) (hic S) k → ¬ sh2 (gg S s) (bR S s) s (kap S) nr nc (loc S) (hic S) k → Q 0 T) : X3_provingSide (nI k) T Q := by
  have h1 := hC.1
  have h2 := hC.2.1
  have c0 : (0 : Int32).toInt = 0 := by decide
  have c1 : (1 : Int32).toInt = 1 := by decide
  have cm : (-1 : Int32).toInt = -1 := by decide
  have he := ends_c hfl h2
  have a3 : ∀ c, c < nc → -1 ≤ aS (gg S s) nr k c ∧ aS (gg S s) nr k c ≤ 1 := fun c hc => by
    rw [aS_ends he hc]
    split <;> split <;> omega
  unfold X3_provingSide
  refine zl_up3 nc (fun i x y U => U = T ∧ x.toInt = sI (fun c => if 0 < aS (gg S s) nr k c then aS (gg S s) nr k c * loc S c else aS (gg S s) nr k c * hic S c) i ∧ y.toInt = sI (fun c => if 0 < aS (gg S s) nr k c then aS (gg S s) nr k c * hic S c else aS (gg S s) nr k c * loc S c) i) (by omega) (fun i x y U k2 hi hJ hk2 => ?_) 0 0 T ⟨rfl, c0, c0⟩
  obtain ⟨rfl, hx, hy⟩ := hJ
  show X3_provingSide_B9 (nI k) x y (nI i) U Q k2
  unfold X3_provingSide_B9
  rw [(hC.kp hk).2.2.1]
  refine ⟨fun z => ?_, fun z => ?_⟩
  · have := up_end (by omega) hi z
    subst this
    have hl : x.toInt = lstS (gg S s) nr i (loc S) (hic S) k := hx
    have hg : y.toInt = grtS (gg S s) nr i (loc S) (hic S) k := hy
    unfold X3_provingSide_b101
    refine x3_addRights hC hfl.2.1 hk h23 hk8 (fun v hv => ?_)
    have b130 : ¬ sh1 (gg S s) (bR S s) s (kap S) nr i (loc S) (hic S) k → X3_provingSide_b130 (nI k) y v U Q := by
      intro hn
      unfold X3_provingSide_b130 X3_provingSide_b150
      rw [i_le, hv, hg]
      refine ⟨fun g => q0 hn (fun w => by have := w.1; omega), fun g => x3_mayStand hC hk h23 hk8 (fun w => ⟨fun h => absurd h (by decide), fun _ => q2 hn ⟨by omega, by rw [cm] at w; exact w⟩⟩) (fun w => ⟨fun _ => q0 hn (fun w2 => w (by rw [cm]; exact w2.2)), fun h => absurd rfl h⟩)⟩
    rw [i_le, hv, hl]
    refine ⟨fun g => b130 (fun w => by have := w.1; omega), fun g => x3_mayStand hC hk h23 hk8 (fun w => ⟨fun h => absurd h (by decide), fun _ => q1 ⟨by omega, by rw [c1] at w; exact w⟩⟩) (fun w => ⟨fun _ => b130 (fun w2 => w (by rw [c1]; exact w2.2)), fun h => absurd rfl h⟩)⟩
  · have hlt := up_on (by omega) hi z
    have hvc : vp_in (nI i) 10 := vp_in_nI (by omega) (by omega)
    have e8 : U.1 8 = S.1 8 := hk.1 8 rfl
    have e9 : U.1 9 = S.1 9 := hk.1 9 rfl
    have hz := (hC.2.2.2.2.2.2.1 i hlt).2.2.2.1
    unfold zok at hz
    have lob : ∀ c, c < nc → -1000 ≤ loc S c ∧ loc S c ≤ 1000 ∧ -1000 ≤ hic S c ∧ hic S c ≤ 1000 := fun c hc => by
      have h := (hC.2.2.2.2.2.2.1 c hc).2.2.2.1
      unfold zok at h
      unfold loc hic
      omega
    have mb : ∀ c, c < nc → ∀ t : Int, -1000 ≤ t → t ≤ 1000 → -1000 ≤ aS (gg S s) nr k c * t ∧ aS (gg S s) nr k c * t ≤ 1000 := fun c hc t t1 t2 => by
      have h := a3 c hc
      have h' : aS (gg S s) nr k c = -1 ∨ aS (gg S s) nr k c = 0 ∨ aS (gg S s) nr k c = 1 := by omega
      rcases h' with e | e | e <;> rw [e] <;> omega
    have bx := sI_le (g := fun c => if 0 < aS (gg S s) nr k c then aS (gg S s) nr k c * loc S c else aS (gg S s) nr k c * hic S c) (n := i) (b := 1000) (fun c hc => by
      have l := lob c (by omega)
      have m1 := mb c (by omega) _ l.1 l.2.1
      have m2 := mb c (by omega) _ l.2.2.1 l.2.2.2
      split <;> omega)
    have by' := sI_le (g := fun c => if 0 < aS (gg S s) nr k c then aS (gg S s) nr k c * hic S c else aS (gg S s) nr k c * loc S c) (n := i) (b := 1000) (fun c hc => by
      have l := lob c (by omega)
      have m1 := mb c (by omega) _ l.1 l.2.1
      have m2 := mb c (by omega) _ l.2.2.1 l.2.2.2
      split <;> omega)
    have li := lob i hlt
    have ml := mb i hlt _ li.1 li.2.1
    have mh := mb i hlt _ li.2.2.1 li.2.2.2
    refine x3_addUp hC hfl hk h23 hk8 hlt (fun v hv => ?_)
    have vl : (v * U.1 8 i).toInt = aS (gg S s) nr k i * loc S i := by
      have e : (U.1 8 i).toInt = loc S i := by rw [e8]; rfl
      rw [i_mul (by rw [hv, e]; omega) (by rw [hv, e]; omega), hv, e]
    have vh : (v * U.1 9 i).toInt = aS (gg S s) nr k i * hic S i := by
      have e : (U.1 9 i).toInt = hic S i := by rw [e9]; rfl
      rw [i_mul (by rw [hv, e]; omega) (by rw [hv, e]; omega), hv, e]
    have b92 : ∀ x' t0 : Int32, x'.toInt = sI (fun c => if 0 < aS (gg S s) nr k c then aS (gg S s) nr k c * loc S c else aS (gg S s) nr k c * hic S c) (i + 1) → t0.toInt = (if 0 < aS (gg S s) nr k i then aS (gg S s) nr k i * hic S i else aS (gg S s) nr k i * loc S i) → X3_provingSide_b92 (nI k) x' (nI i) t0 y U Q k2 := by
      intro x' t0 hx' ht
      unfold X3_provingSide_b92
      intro y' ey w ew
      rw [nI_1] at ew
      subst ew
      have tb : -1000 ≤ t0.toInt ∧ t0.toInt ≤ 1000 := by rw [ht]; split <;> omega
      exact hk2 hlt _ _ _ ⟨rfl, hx', by rw [ey, i_add (by rw [hy]; omega) (by rw [hy]; omega), hy, ht]; rfl⟩
    have b59 : ∀ t0 : Int32, t0.toInt = (if 0 < aS (gg S s) nr k i then aS (gg S s) nr k i * loc S i else aS (gg S s) nr k i * hic S i) → X3_provingSide_b59 (nI k) y (nI i) v t0 x U Q k2 := by
      intro t0 ht
      have tb : -1000 ≤ t0.toInt ∧ t0.toInt ≤ 1000 := by rw [ht]; split <;> omega
      unfold X3_provingSide_b59
      intro x' ex
      have hx' : x'.toInt = sI (fun c => if 0 < aS (gg S s) nr k c then aS (gg S s) nr k c * loc S c else aS (gg S s) nr k c * hic S c) (i + 1) := by
        rw [ex, i_add (by rw [hx]; omega) (by rw [hx]; omega), hx, ht]; rfl
      rw [i_le, hv, c0, nI_clamp (by omega)]
      refine ⟨fun g => ⟨hvc, b92 x' _ hx' ?_⟩, fun g => ⟨hvc, b92 x' _ hx' ?_⟩⟩
      · rw [vl, if_neg (by omega)]
      · rw [vh, if_pos (by omega)]
    rw [i_le, hv, c0, nI_clamp (by omega)]
    refine ⟨fun g => ⟨hvc, b59 _ ?_⟩, fun g => ⟨hvc, b59 _ ?_⟩⟩
    · rw [vh, if_neg (by omega)]
    · rw [vl, if_pos (by omega)]
/-- the first set, and its side -/
def fstP (g : Nat → Nat → Int) (b s : Nat → Int) (κ : Nat → Prop) (nr nc : Nat) (lo hi : Nat → Int) (k : Nat) (v : Int32) : Prop := 0 < k ∧ k < 2 ^ nr ∧ ((v = 1 ∧ sh1 g b s κ nr nc lo hi k) ∨ (v = -1 ∧ ¬ sh1 g b s κ nr nc lo hi k ∧ sh2 g b s κ nr nc lo hi k)) ∧ ∀ j, 0 < j → j < k → ¬ sh1 g b s κ nr nc lo hi j ∧ ¬ sh2 g b s κ nr nc lo hi j
theorem fstP.uniq {g : Nat → Nat → Int} {b s : Nat → Int} {κ : Nat → Prop} {nr nc : Nat} {lo hi : Nat → Int} {k j : Nat} {v w : Int32} (h : fstP g b s κ nr nc lo hi k v) (g' : fstP g b s κ nr nc lo hi j w) : k = j ∧ v = w := by
  obtain ⟨h1, h2, h3, h4⟩ := h
  obtain ⟨g1, g2, g3, g4⟩ := g'
  have e : k = j := by
    rcases Nat.lt_trichotomy k j with e | e | e
    · have := g4 k h1 e
      rcases h3 with ⟨_, q⟩ | ⟨_, _, q⟩
      · exact absurd q this.1
      · exact absurd q this.2
    · exact e
    · have := h4 j g1 e
      rcases g3 with ⟨_, q⟩ | ⟨_, _, q⟩
      · exact absurd q this.1
      · exact absurd q this.2
  subst e
  refine ⟨rfl, ?_⟩
  rcases h3 with ⟨a, q⟩ | ⟨a, q, _⟩ <;> rcases g3 with ⟨c, p⟩ | ⟨c, p, _⟩
  · rw [a, c]
  · exact absurd q p
  · exact absurd p q
  · rw [a, c]
theorem x3_search {nc nr : Nat} {s : Nat → Int} {S T : ZS} {Q : ZS → Prop} (hC : zC S nc nr) (hfl : flw S nc nr s) (hk : zKp S T) (h23 : ∀ r, r < nr → (T.1 23 r).toInt = s r) (hex : ¬ noSh (gg S s) (bR S s) s (kap S) nr nc (loc S) (hic S)) (q : ∀ U k v, zQ1 5 T U → U.1 5 0 = nI k → U.1 5 1 = v → fstP (gg S s) (bR S s) s (kap S) nr nc (loc S) (hic S) k v → Q U) : X3_search T Q := by
  have h2 := hC.2.1
  have hp := pow_le h2
  have hp0 : 0 < 2 ^ nr := Nat.two_pow_pos nr
  unfold X3_search
  intro T1 e1 T2 e2
  have t2 : zQ1 5 T T2 := by rw [e2, e1]; exact ((zQ1.rf T).u).u
  have t51 : T2.1 5 1 = 0 := by rw [e2, zu_at, if_pos ⟨rfl, rfl⟩]
  refine zl_cf (fun s => s.1) (2 ^ nr) 1 (fun i y => zQ1 5 T y.2 ∧ ((y.2.1 5 1 = 0 ∧ ∀ j, 0 < j → j < i → ¬ sh1 (gg S s) (bR S s) s (kap S) nr nc (loc S) (hic S) j ∧ ¬ sh2 (gg S s) (bR S s) s (kap S) nr nc (loc S) (hic S) j) ∨ ∃ k v, y.2.1 5 0 = nI k ∧ y.2.1 5 1 = v ∧ ¬ v = 0 ∧ fstP (gg S s) (bR S s) s (kap S) nr nc (loc S) (hic S) k v)) (by omega) (fun i y k hi1 hi ec hJ hk2 => ?_) _ (by omega) rfl ⟨t2, Or.inl ⟨t51, fun j a b => by omega⟩⟩
  obtain ⟨x, U⟩ := y
  dsimp only at ec hJ
  obtain ⟨qU, hor⟩ := hJ
  subst ec
  have kU : zKp S U := hk.tr (zKp.of (fun n hn => qU.2 n (fun e => by subst e; cases hn)) (qU.2 61 (by decide)))
  show X3_search_B12 (nI i) U Q k
  unfold X3_search_B12 X3_search_b51
  rw [(hC.kp kU).2.2.2.1, two_pow nr h2]
  rcases hor with ⟨u0, hno⟩ | ⟨k0, v, g1, g2, g3, g4⟩
  · refine ⟨fun _ => ⟨fun z => ?_, fun z U1 eU1 => ?_⟩, fun h => absurd u0 h⟩
    · have := up_endG (by omega) hi z
      rw [this] at hno
      exact absurd hno hex
    · have hlt := up_onG (by omega) hi z
      have q1 : zQ1 5 T U1 := by rw [eU1]; exact qU.u
      have k1 : zKp S U1 := by rw [eU1]; exact kU.u rfl (by decide)
      have u50 : U1.1 5 0 = nI i := by rw [eU1, zu_at, if_pos ⟨rfl, rfl⟩]
      have s23 : ∀ r, r < nr → (U1.1 23 r).toInt = s r := fun r hr => by rw [q1.2 23 (by decide)]; exact h23 r hr
      have nx : ∀ v : Int32, (v = 0 ∧ ¬ sh1 (gg S s) (bR S s) s (kap S) nr nc (loc S) (hic S) i ∧ ¬ sh2 (gg S s) (bR S s) s (kap S) nr nc (loc S) (hic S) i) ∨ (¬ v = 0 ∧ fstP (gg S s) (bR S s) s (kap S) nr nc (loc S) (hic S) i v) → ∀ U2 : ZS, U2 = zu U1 5 1 v → ∀ w : Int32, w = nI i + 1 → k (w, U2) := by
        intro v hv U2 eU2 w ew
        rw [nI_1] at ew
        subst ew
        have w51 : U2.1 5 1 = v := by rw [eU2, zu_at, if_pos ⟨rfl, rfl⟩]
        have w50 : U2.1 5 0 = nI i := by rw [eU2, zu_at, if_neg (by decide)]; exact u50
        refine hk2 hlt _ rfl ⟨by rw [eU2]; exact q1.u, ?_⟩
        rcases hv with ⟨e, n1, n2⟩ | ⟨e, hf⟩
        · left
          refine ⟨by rw [w51]; exact e, fun j a b => ?_⟩
          by_cases ej : j = i
          · rw [ej]; exact ⟨n1, n2⟩
          · exact hno j a (by omega)
        · exact Or.inr ⟨i, v, w50, w51, e, hf⟩
      refine x3_provingSide hC hfl k1 s23 (by omega) (fun w => nx 1 (Or.inr ⟨by decide, by omega, hlt, Or.inl ⟨rfl, w⟩, hno⟩)) (fun w1 w2 => nx (-1) (Or.inr ⟨by decide, by omega, hlt, Or.inr ⟨rfl, w1, w2⟩, hno⟩)) (fun w1 w2 => nx 0 (Or.inl ⟨rfl, w1, w2⟩))
  · refine ⟨fun h => absurd (g2.symm.trans h) g3, fun _ => q U k0 v qU g1 g2 g4⟩
