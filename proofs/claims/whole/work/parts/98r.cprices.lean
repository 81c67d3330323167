/-! the class's prices -/
def mo (T : ZS) (i j : Nat) : Int := (T.1 (40 + i) j).toInt
def cA (T : ZS) (a : Nat) : Int := (T.1 30 a).toInt
def cn (nr v : Nat) : Nat := if v < nr then v else 8
def zLm (T U : ZS) : Prop := (∀ n, n < 40 ∨ 48 < n → U.1 n = T.1 n) ∧ U.2 = T.2
theorem zLm.rf (T : ZS) : zLm T T := ⟨fun _ _ => rfl, rfl⟩
theorem zLm.tr {T U V : ZS} (h : zLm T U) (g : zLm U V) : zLm T V := ⟨fun n a => (g.1 n a).trans (h.1 n a), g.2.trans h.2⟩
theorem x2_limit {i j : Nat} {y3 : Int32} {T : ZS} {Q : ZS → Prop} (hi : i ≤ 8) (hj : j ≤ 8) (q : ∀ U, zLm T U → (∀ a b, mo U a b = if a = i ∧ b = j then (if y3.toInt < mo T i j then y3.toInt else mo T i j) else mo T a b) → Q U) : X2_limit (nI i) (nI j) y3 T Q := by
  have vi : vp_in (nI i) 9 := vp_in_nI (by omega) (by omega)
  have vj : vp_in (nI j) 9 := vp_in_nI (by omega) (by omega)
  unfold X2_limit
  rw [nI_clamp (by omega), nI_clamp (by omega)]
  refine ⟨vi, vi, vj, vj, fun U eU => q U ⟨fun n hn => by rw [eU, zu_ne (by omega)], by rw [eU]; rfl⟩ (fun a b => ?_)⟩
  unfold mo
  rw [eU, zu_at]
  by_cases e : a = i ∧ b = j
  · rw [if_pos ⟨by omega, e.2⟩, if_pos e]
    by_cases g : y3 < T.1 (40 + i) j
    · rw [if_pos g, if_pos (i_lt.mp g)]
    · rw [if_neg g, if_neg (fun z => g (i_lt.mpr z))]
  · rw [if_neg (fun z => e ⟨by omega, z.2⟩), if_neg e]
/-- limits: not below what any prices want -/
def mxB (S : ZS) (s x : Nat → Int) (nc nr : Nat) (M : Nat → Nat → Int) (K : Int) : Prop := (∀ i j, i ≤ 8 → j ≤ 8 → M i j = 1000000000 ∨ (M i j ≤ K ∧ ∀ π, clP S s x nc nr π → π (rn nr j) - π (rn nr i) ≤ M i j)) ∧ ∀ i, i ≤ 8 → M i i = 0
def rhO (S : ZS) (s x : Nat → Int) (nc nr : Nat) (ρ : Nat → Int) : Prop := clP S s x nc nr ρ ∧ ∀ v, v < nr + 1 → -400000 ≤ ρ v ∧ ρ v ≤ 400000
theorem mxB.lo {S : ZS} {s x ρ : Nat → Int} {nc nr i j : Nat} {M : Nat → Nat → Int} {K : Int} (hρ : rhO S s x nc nr ρ) (h : mxB S s x nc nr M K) (hi : i ≤ 8) (hj : j ≤ 8) : M i j = 1000000000 ∨ (-800000 ≤ M i j ∧ M i j ≤ K) := by
  have rl : ∀ v, rn nr v < nr + 1 := fun v => by unfold rn; split <;> omega
  rcases h.1 i j hi hj with g | g
  · exact Or.inl g
  · have := g.2 ρ hρ.1
    have := hρ.2 _ (rl i)
    have := hρ.2 _ (rl j)
    exact Or.inr ⟨by omega, g.1⟩
theorem mxB.lim {S : ZS} {s x ρ : Nat → Int} {nc nr i j : Nat} {M N : Nat → Nat → Int} {K w : Int} (hρ : rhO S s x nc nr ρ) (h : mxB S s x nc nr M K) (hK : K < 1000000000) (hw : w ≤ K) (hp : ∀ π, clP S s x nc nr π → π (rn nr j) - π (rn nr i) ≤ w) (hN : ∀ a b, N a b = if a = i ∧ b = j then (if w < M i j then w else M i j) else M a b) : mxB S s x nc nr N K := by
  refine ⟨fun a b ha hb => ?_, fun a ha => ?_⟩
  · rw [hN]
    by_cases e : a = i ∧ b = j
    · obtain ⟨rfl, rfl⟩ := e
      rw [if_pos ⟨rfl, rfl⟩]
      split
      · exact Or.inr ⟨hw, hp⟩
      · exact h.1 a b ha hb
    · rw [if_neg e]; exact h.1 a b ha hb
  · rw [hN]
    by_cases e : a = i ∧ a = j
    · rw [if_pos e]
      have := h.2 a ha
      have p := hp ρ hρ.1
      rw [← e.1, ← e.2] at p
      rw [← e.1, ← e.2, this]
      split <;> omega
    · rw [if_neg e]; exact h.2 a ha
def aLm (T : ZS) (M : Nat → Nat → Int) (a : Nat) : Prop := (xA T a < hA T a → M (dA T a) (uA T a) ≤ cA T a) ∧ (lA T a < xA T a → M (uA T a) (dA T a) ≤ -cA T a)
theorem aLm.le {T : ZS} {M N : Nat → Nat → Int} {a : Nat} (h : aLm T M a) (hu : uA T a ≤ 8) (hd : dA T a ≤ 8) (g : ∀ i j, i ≤ 8 → j ≤ 8 → N i j ≤ M i j) : aLm T N a := ⟨fun w => Int.le_trans (g _ _ hd hu) (h.1 w), fun w => Int.le_trans (g _ _ hu hd) (h.2 w)⟩
/-- the arcs as prices see them -/
def arP (S T : ZS) (s x : Nat → Int) (nc nr m : Nat) : Prop := m ≤ 18 ∧ T.1 3 0 = nI m ∧ ∀ a, a < m → uA T a ≤ 8 ∧ dA T a ≤ 8 ∧ T.1 26 a = nI (uA T a) ∧ T.1 27 a = nI (dA T a) ∧ -1000 ≤ cA T a ∧ cA T a ≤ 1000 ∧ (xA T a < hA T a → ∀ π, clP S s x nc nr π → π (rn nr (uA T a)) - π (rn nr (dA T a)) ≤ cA T a) ∧ (lA T a < xA T a → ∀ π, clP S s x nc nr π → π (rn nr (dA T a)) - π (rn nr (uA T a)) ≤ -cA T a)
set_option maxHeartbeats 1000000 in
theorem x2_setLimits {nc nr m : Nat} {s x ρ : Nat → Int} {S T : ZS} {Q : ZS → Prop} (hρ : rhO S s x nc nr ρ) (hAr : arP S T s x nc nr m) (q : ∀ U, zLm T U → mxB S s x nc nr (mo U) 1000 → (∀ a, a < m → aLm T (mo U) a) → Q U) : X2_setLimits T Q := by
  have h18 := hAr.1
  have cF : (1000000000 : Int32).toInt = 1000000000 := by decide
  have c0 : (0 : Int32).toInt = 0 := by decide
  unfold X2_setLimits
  refine zl_up 9 (fun i U => zLm T U ∧ ∀ a b, a < i → b ≤ 8 → mo U a b = if a = b then 0 else 1000000000) (by omega) (fun i U k hi hJ hk2 => ?_) T ⟨zLm.rf T, fun a b ha => by omega⟩
  obtain ⟨fU, mU⟩ := hJ
  show X2_setLimits_B2 (nI i) U Q k
  unfold X2_setLimits_B2
  refine ⟨fun z => ?_, fun z => ?_⟩
  · have := up_end (n := 9) (by omega) hi z
    subst this
    have m0 : mxB S s x nc nr (mo U) 1000 := by
      refine ⟨fun a b ha hb => ?_, fun a ha => ?_⟩
      · rw [mU a b (by omega) hb]
        by_cases e : a = b
        · rw [if_pos e, e]; exact Or.inr ⟨by omega, fun π _ => by omega⟩
        · rw [if_neg e]; exact Or.inl rfl
      · rw [mU a a (by omega) ha, if_pos rfl]
    unfold X2_setLimits_b34
    refine zl_up m (fun a V => zLm T V ∧ mxB S s x nc nr (mo V) 1000 ∧ ∀ b, b < a → aLm T (mo V) b) (by omega) (fun a V k3 ha hJ hk3 => ?_) U ⟨fU, m0, fun b hb => by omega⟩
    obtain ⟨fV, mV, lV⟩ := hJ
    show X2_setLimits_B36 (nI a) V Q k3
    unfold X2_setLimits_B36 X2_setLimits_b122
    rw [fV.1 3 (by omega), hAr.2.1]
    refine ⟨fun z2 => ?_, fun z2 => ?_⟩
    · have := up_endG (by omega) ha z2
      subst this
      exact q V fV mV lV
    have hal := up_onG (by omega) ha z2
    have hva : vp_in (nI a) 18 := vp_in_nI (by omega) (by omega)
    obtain ⟨a1, a2, a3, a4, a5, a6, a7, a8⟩ := hAr.2.2 a hal
    have at' : ∀ W, zLm T W → W.1 26 a = nI (uA T a) ∧ W.1 27 a = nI (dA T a) ∧ W.1 28 a = T.1 28 a ∧ W.1 29 a = T.1 29 a ∧ W.1 30 a = T.1 30 a ∧ W.1 31 a = T.1 31 a := fun W fW => by
      rw [fW.1 26 (by omega), fW.1 27 (by omega), fW.1 28 (by omega), fW.1 29 (by omega), fW.1 30 (by omega), fW.1 31 (by omega)]
      exact ⟨a3, a4, rfl, rfl, rfl, rfl⟩
    have lowr : ∀ (V W : ZS) (i j : Nat) (w : Int), (∀ a b, mo W a b = if a = i ∧ b = j then (if w < mo V i j then w else mo V i j) else mo V a b) → (∀ p r, p ≤ 8 → r ≤ 8 → mo W p r ≤ mo V p r) ∧ mo W i j ≤ w := fun V W i j w h => by
      refine ⟨fun p r _ _ => ?_, ?_⟩
      · rw [h]
        by_cases e : p = i ∧ r = j
        · rw [if_pos e, e.1, e.2]; split <;> omega
        · rw [if_neg e]; exact Int.le_refl _
      · rw [h, if_pos ⟨rfl, rfl⟩]; split <;> omega
    have nx : ∀ W, zLm T W → mxB S s x nc nr (mo W) 1000 → (∀ b, b < a + 1 → aLm T (mo W) b) → X2_setLimits_b116 (nI a) W Q k3 := by
      intro W fW mW lW
      unfold X2_setLimits_b116
      intro w ew
      rw [nI_1] at ew
      subst ew
      exact hk3 hal W ⟨fW, mW, lW⟩
    have b87 : ∀ W, zLm T W → mxB S s x nc nr (mo W) 1000 → (∀ b, b < a → aLm T (mo W) b) → (xA T a < hA T a → mo W (dA T a) (uA T a) ≤ cA T a) → X2_setLimits_b87 (nI a) (nI (uA T a)) (nI (dA T a)) W Q k3 := by
      intro W fW mW lW l1
      obtain ⟨w1, w2, w3, w4, w5, w6⟩ := at' W fW
      unfold X2_setLimits_b87
      rw [nI_clamp (by omega), w3, w5, w6, i_le]
      refine ⟨hva, hva, fun g => nx W fW mW (fun b hb => ?_), fun g => ⟨hva, x2_limit a1 a2 (fun Y fY hY => ?_)⟩⟩
      · by_cases e : b = a
        · subst e
          exact ⟨l1, fun g2 => absurd g (by have : (T.1 28 b).toInt < (T.1 31 b).toInt := g2; omega)⟩
        · exact lW b (by omega)
      · have gx : lA T a < xA T a := by show (T.1 28 a).toInt < (T.1 31 a).toInt; omega
        have ew : (-(T.1 30 a)).toInt = -cA T a := by
          have : -1000 ≤ (T.1 30 a).toInt := a5
          rw [i_neg (by omega)]; rfl
        rw [ew] at hY
        have lw := lowr W Y _ _ _ hY
        refine nx Y (fW.tr fY) (mxB.lim hρ mW (by omega) (by omega) (a8 gx) hY) (fun b hb => ?_)
        by_cases e : b = a
        · subst e
          exact ⟨fun g1 => Int.le_trans (lw.1 _ _ a2 a1) (l1 g1), fun _ => lw.2⟩
        · have bb := hAr.2.2 b (by omega)
          exact (lW b (by omega)).le bb.1 bb.2.1 lw.1
    obtain ⟨w1, w2, w3, w4, w5, w6⟩ := at' V fV
    rw [nI_clamp (by omega), w1, w2, w4, w5, w6]
    refine ⟨hva, fun x3 e3 => ⟨hva, fun x4 e4 => ?_⟩⟩
    subst e3
    subst e4
    rw [i_le]
    refine ⟨hva, hva, fun g => b87 V fV mV lV (fun g2 => absurd g (by have : (T.1 31 a).toInt < (T.1 29 a).toInt := g2; omega)), fun g => ⟨hva, x2_limit a2 a1 (fun Y fY hY => ?_)⟩⟩
    have gx : xA T a < hA T a := by show (T.1 31 a).toInt < (T.1 29 a).toInt; omega
    have ew : (T.1 30 a).toInt = cA T a := rfl
    rw [ew] at hY
    have lw := lowr V Y _ _ _ hY
    exact b87 Y (fV.tr fY) (mxB.lim hρ mV (by omega) (by omega) (a7 gx) hY) (fun b hb => (lV b hb).le (hAr.2.2 b (by omega)).1 (hAr.2.2 b (by omega)).2.1 lw.1) (fun _ => lw.2)
  · have hlt := up_on (n := 9) (by omega) hi z
    have hvi : vp_in (nI i) 9 := vp_in_nI (by omega) (by omega)
    rw [nI_clamp (by omega)]
    refine ⟨hvi, m_fill (by omega) (fun V v2 hV hj => ⟨hvi, hvi, fun W eW w ew => ?_⟩)⟩
    rw [nI_1] at ew
    subst ew
    refine hk2 hlt W ⟨⟨fun n hn => by rw [eW, zu_ne (by omega), hV n (by omega)]; exact fU.1 n hn, by rw [eW]; show V.2 = T.2; rw [v2]; exact fU.2⟩, fun a b ha hb => ?_⟩
    unfold mo
    rw [eW, zu_at]
    by_cases e : a = i
    · subst e
      by_cases e2 : b = a
      · rw [if_pos ⟨rfl, e2⟩, if_pos e2.symm]; exact c0
      · rw [if_neg (fun z => e2 z.2), if_neg (Ne.symm e2), hj, if_pos (by omega)]; exact cF
    · rw [if_neg (fun z => by omega), hV (40 + a) (by omega)]
      exact mU a b (by omega) hb
def tri (M : Nat → Nat → Int) (k : Nat) : Prop := ∀ m, m < k → ∀ i j, i ≤ 8 → j ≤ 8 → M i m < 1000000000 → M m j < 1000000000 → M i j ≤ M i m + M m j
/-- one middle node -/
def nMx (O : Nat → Nat → Int) (k a b : Nat) : Int := if O a k < 1000000000 ∧ O k b < 1000000000 then (if O a k + O k b < O a b then O a k + O k b else O a b) else O a b
theorem nMx_le {O : Nat → Nat → Int} {k a b : Nat} : nMx O k a b ≤ O a b := by unfold nMx; split <;> (try split) <;> omega
theorem nMx_k {O : Nat → Nat → Int} {k : Nat} (h0 : O k k = 0) (b : Nat) : nMx O k k b = O k b ∧ nMx O k b k = O b k := by
  unfold nMx
  rw [h0]
  refine ⟨?_, ?_⟩ <;> split <;> (try split) <;> omega
theorem nMx_B {S : ZS} {s x ρ : Nat → Int} {nc nr k : Nat} {O : Nat → Nat → Int} {K : Int} (hρ : rhO S s x nc nr ρ) (h : mxB S s x nc nr O K) (hK : 0 ≤ K) (hk : k ≤ 8) : mxB S s x nc nr (nMx O k) (2 * K) := by
  refine ⟨fun a b ha hb => ?_, fun a ha => ?_⟩
  · have o := h.1 a b ha hb
    unfold nMx
    by_cases e : O a k < 1000000000 ∧ O k b < 1000000000
    · rw [if_pos e]
      rcases h.1 a k ha hk with g1 | g1
      · omega
      · rcases h.1 k b hk hb with g2 | g2
        · omega
        · split
          · exact Or.inr ⟨by omega, fun π hπ => by have := g1.2 π hπ; have := g2.2 π hπ; omega⟩
          · rcases o with o | o
            · exact Or.inl o
            · exact Or.inr ⟨by omega, o.2⟩
    · rw [if_neg e]
      rcases o with o | o
      · exact Or.inl o
      · exact Or.inr ⟨by omega, o.2⟩
  · have o := h.2 a ha
    unfold nMx
    rw [o]
    by_cases e : O a k < 1000000000 ∧ O k a < 1000000000
    · rw [if_pos e]
      rcases h.1 a k ha hk with g1 | g1
      · omega
      · rcases h.1 k a hk ha with g2 | g2
        · omega
        · have := g1.2 ρ hρ.1
          have := g2.2 ρ hρ.1
          split <;> omega
    · rw [if_neg e]
theorem nMx_t {S : ZS} {s x ρ : Nat → Int} {nc nr k : Nat} {O : Nat → Nat → Int} {K : Int} (hρ : rhO S s x nc nr ρ) (h : mxB S s x nc nr O K) (hK : K ≤ 300000) (hk : k ≤ 8) (ht : tri O k) : tri (nMx O k) (k + 1) := by
  intro m hm i j hi hj g1 g2
  have h0 := h.2 k hk
  have sm : ∀ a b, a ≤ 8 → b ≤ 8 → O a k < 1000000000 → O k b < 1000000000 → nMx O k a b ≤ O a k + O k b := fun a b ha hb e1 e2 => by
    unfold nMx; rw [if_pos ⟨e1, e2⟩]; split <;> omega
  by_cases e : m = k
  · subst e
    rw [(nMx_k h0 i).2] at g1 ⊢
    rw [(nMx_k h0 j).1] at g2 ⊢
    exact sm i j hi hj g1 g2
  · have hmk : m < k := by omega
    have cs : ∀ a b, a ≤ 8 → b ≤ 8 → nMx O k a b < 1000000000 → (nMx O k a b = O a b ∧ O a b < 1000000000) ∨ (nMx O k a b = O a k + O k b ∧ O a k < 1000000000 ∧ O k b < 1000000000) := fun a b ha hb g => by
      unfold nMx at *
      by_cases e : O a k < 1000000000 ∧ O k b < 1000000000
      · rw [if_pos e] at *
        by_cases e2 : O a k + O k b < O a b
        · rw [if_pos e2] at *; exact Or.inr ⟨rfl, e⟩
        · rw [if_neg e2] at *; exact Or.inl ⟨rfl, g⟩
      · rw [if_neg e] at *; exact Or.inl ⟨rfl, g⟩
    have bd : ∀ a b, a ≤ 8 → b ≤ 8 → O a b < 1000000000 → -800000 ≤ O a b ∧ O a b ≤ 300000 := fun a b ha hb g => by
      rcases h.lo hρ ha hb with w | w <;> omega
    rcases cs i m hi (by omega) g1 with ⟨p1, p2⟩ | ⟨p1, p2, p3⟩ <;> rcases cs m j (by omega) hj g2 with ⟨q1, q2⟩ | ⟨q1, q2, q3⟩
    · rw [p1, q1]
      exact Int.le_trans nMx_le (ht m hmk i j hi hj p2 q2)
    · have t := ht m hmk i k hi hk p2 q2
      have := bd i m hi (by omega) p2
      have := bd m k (by omega) hk q2
      have := sm i j hi hj (by omega) q3
      rw [p1, q1]; omega
    · have t := ht m hmk k j hk hj p3 q2
      have := bd k m hk (by omega) p3
      have := bd m j (by omega) hj q2
      have := sm i j hi hj p2 (by omega)
      rw [p1, q1]; omega
    · have t := ht m hmk k k hk hk p3 q2
      have := sm i j hi hj p2 q3
      rw [p1, q1]; omega
theorem pw_step : ∀ k, k < 9 → 2 * (1000 * 2 ^ k : Int) = 1000 * 2 ^ (k + 1) ∧ (1000 * 2 ^ k : Int) ≤ 256000 ∧ 0 ≤ (1000 * 2 ^ k : Int) := by decide +kernel
set_option maxHeartbeats 1000000 in
theorem x2_tighten {nc nr m : Nat} {s x ρ : Nat → Int} {S T0 T : ZS} {Q : ZS → Prop} (hρ : rhO S s x nc nr ρ) (hm : mxB S s x nc nr (mo T) 1000) (hA : ∀ a, a < m → uA T0 a ≤ 8 ∧ dA T0 a ≤ 8) (hl : ∀ a, a < m → aLm T0 (mo T) a) (q : ∀ U, zLm T U → mxB S s x nc nr (mo U) 512000 → tri (mo U) 9 → (∀ a, a < m → aLm T0 (mo U) a) → Q U) : X2_tightenLimits T Q := by
  have cF : (1000000000 : Int32).toInt = 1000000000 := by decide
  have hm0 : mxB S s x nc nr (mo T) (1000 * 2 ^ 0) := by
    have e : (1000 * 2 ^ 0 : Int) = 1000 := by decide
    rw [e]; exact hm
  unfold X2_tightenLimits
  refine zl_up 9 (fun k U => zLm T U ∧ mxB S s x nc nr (mo U) (1000 * 2 ^ k) ∧ tri (mo U) k ∧ ∀ a, a < m → aLm T0 (mo U) a) (by omega) (fun k U kk hk hJ hk2 => ?_) T ⟨zLm.rf T, hm0, fun m hm => by omega, hl⟩
  obtain ⟨fU, mU, tU, lU⟩ := hJ
  show X2_tightenLimits_B2 (nI k) U Q kk
  unfold X2_tightenLimits_B2 X2_tightenLimits_b47
  refine ⟨fun z => ?_, fun z => ?_⟩
  · have := up_end (n := 9) (by omega) hk z
    subst this
    have e : (1000 * 2 ^ 9 : Int) = 512000 := by decide
    rw [e] at mU
    exact q U fU mU tU lU
  have hlt := up_on (n := 9) (by omega) hk z
  obtain ⟨ps, p1, p2⟩ := pw_step k hlt
  have hvk : vp_in (nI k) 9 := vp_in_nI (by omega) (by omega)
  have h0 := mU.2 k (by omega)
  have bd : ∀ a b, a ≤ 8 → b ≤ 8 → mo U a b = 1000000000 ∨ (-800000 ≤ mo U a b ∧ mo U a b ≤ 256000) := fun a b ha hb => by
    rcases mU.lo hρ ha hb with w | w
    · exact Or.inl w
    · exact Or.inr (by omega)
  refine zl_up 9 (fun j V => zLm T V ∧ ∀ a b, a ≤ 8 → b ≤ 8 → mo V a b = if a < j then nMx (mo U) k a b else mo U a b) (by omega) (fun j V k3 hj hJ3 hk3 => ?_) U ⟨fU, fun a b _ _ => by rw [if_neg (by omega)]⟩
  obtain ⟨fV, mV⟩ := hJ3
  show X2_tightenLimits_B10 (nI k) (nI j) V Q kk k3
  unfold X2_tightenLimits_B10 X2_tightenLimits_b41
  refine ⟨fun z2 w ew => ?_, fun z2 => ?_⟩
  · rw [nI_1] at ew
    subst ew
    have := up_end (n := 9) (by omega) hj z2
    subst this
    have eV : ∀ a b, a ≤ 8 → b ≤ 8 → mo V a b = nMx (mo U) k a b := fun a b ha hb => by rw [mV a b ha hb, if_pos (by omega)]
    have nB := nMx_B hρ mU p2 (by omega : k ≤ 8)
    have nT := nMx_t hρ mU (by omega) (by omega : k ≤ 8) tU
    refine hk2 hlt V ⟨fV, ⟨fun a b ha hb => ?_, fun a ha => ?_⟩, fun m' hm' a b ha hb g1 g2 => ?_, fun a ha => ?_⟩
    · rw [eV a b ha hb, ← ps]; exact nB.1 a b ha hb
    · rw [eV a a ha ha]; exact nB.2 a ha
    · rw [eV a b ha hb, eV a m' ha (by omega), eV m' b (by omega) hb]
      rw [eV a m' ha (by omega)] at g1
      rw [eV m' b (by omega) hb] at g2
      exact nT m' hm' a b ha hb g1 g2
    · exact (lU a ha).le (hA a ha).1 (hA a ha).2 (fun i j hi hj => by rw [eV i j hi hj]; exact nMx_le)
  · have hjl := up_on (n := 9) (by omega) hj z2
    have hvj : vp_in (nI j) 9 := vp_in_nI (by omega) (by omega)
    have nx : ∀ W, zLm T W → (∀ a b, a ≤ 8 → b ≤ 8 → mo W a b = if a < j + 1 then nMx (mo U) k a b else mo U a b) → X2_tightenLimits_b35 (nI k) (nI j) W Q kk k3 := by
      intro W fW mW
      unfold X2_tightenLimits_b35
      intro w ew
      rw [nI_1] at ew
      subst ew
      exact hk3 hjl W ⟨fW, mW⟩
    have ejk : mo V j k = mo U j k := by rw [mV j k (by omega) (by omega), if_neg (by omega)]
    have ejk2 : (V.1 (40 + j) k).toInt = mo U j k := ejk
    rw [nI_clamp (by omega), nI_clamp (by omega), i_le, cF, ejk2]
    refine ⟨hvj, hvk, fun g => nx V fV (fun a b ha hb => ?_), fun g => ?_⟩
    · rw [mV a b ha hb]
      by_cases e : a < j
      · rw [if_pos e, if_pos (by omega)]
      · rw [if_neg e]
        by_cases e2 : a = j
        · rw [if_pos (by omega), e2]
          unfold nMx
          rw [if_neg (fun z => by omega)]
        · rw [if_neg (by omega)]
    · unfold X2_tightenThrough
      refine zl_up 9 (fun t W => zLm T W ∧ ∀ a b, a ≤ 8 → b ≤ 8 → mo W a b = if a < j ∨ (a = j ∧ b < t) then nMx (mo U) k a b else mo U a b) (by omega) (fun t W k4 ht hJ4 hk4 => ?_) V ⟨fV, fun a b ha hb => by
        rw [mV a b ha hb]
        by_cases e : a < j
        · rw [if_pos e, if_pos (Or.inl e)]
        · rw [if_neg e, if_neg (by omega)]⟩
      obtain ⟨fW, mW⟩ := hJ4
      show X2_tightenThrough_B2 (nI j) (nI k) (nI t) W _ k4
      unfold X2_tightenThrough_B2 X2_tightenThrough_b50 X2_tightenThrough_b44
      refine ⟨fun z3 => ?_, fun z3 => ?_⟩
      · have := up_end (n := 9) (by omega) ht z3
        subst this
        refine nx W fW (fun a b ha hb => ?_)
        rw [mW a b ha hb]
        by_cases e : a < j + 1
        · rw [if_pos e, if_pos (by omega)]
        · rw [if_neg e, if_neg (by omega)]
      · have htl := up_on (n := 9) (by omega) ht z3
        have hvt : vp_in (nI t) 9 := vp_in_nI (by omega) (by omega)
        have ekt : mo W k t = mo U k t := by
          rw [mW k t (by omega) (by omega)]
          split
          · exact (nMx_k h0 t).1
          · rfl
        have ewjk : mo W j k = mo U j k := by
          rw [mW j k (by omega) (by omega)]
          split
          · exact (nMx_k h0 j).2
          · rfl
        have ewjt : mo W j t = mo U j t := by rw [mW j t (by omega) (by omega), if_neg (by omega)]
        have ekt2 : (W.1 (40 + k) t).toInt = mo U k t := ekt
        have ejk3 : (W.1 (40 + j) k).toInt = mo U j k := ewjk
        rw [nI_clamp (by omega), nI_clamp (by omega), nI_clamp (by omega), i_le, cF, ekt2]
        refine ⟨hvk, hvt, fun g2 w ew => ?_, fun g2 => ⟨hvj, hvk, hvk, hvt, x2_limit (by omega) (by omega) (fun Y fY hY w ew => ?_)⟩⟩
        · rw [nI_1] at ew
          subst ew
          refine hk4 htl W ⟨fW, fun a b ha hb => ?_⟩
          rw [mW a b ha hb]
          by_cases e : a < j ∨ (a = j ∧ b < t)
          · rw [if_pos e, if_pos (by omega)]
          · rw [if_neg e]
            by_cases e2 : a = j ∧ b = t
            · rw [if_pos (by omega), e2.1, e2.2]
              unfold nMx
              rw [if_neg (fun z => by omega)]
            · rw [if_neg (by omega)]
        · rw [nI_1] at ew
          subst ew
          have b1 := bd j k (by omega) (by omega)
          have b2 := bd k t (by omega) (by omega)
          have ea : (W.1 (40 + j) k + W.1 (40 + k) t).toInt = mo U j k + mo U k t := by
            rw [i_add (by rw [ejk3, ekt2]; omega) (by rw [ejk3, ekt2]; omega), ejk3, ekt2]
          refine hk4 htl Y ⟨fW.tr fY, fun a b ha hb => ?_⟩
          rw [hY, ea, ewjt]
          by_cases e : a = j ∧ b = t
          · rw [if_pos e, if_pos (show a < j ∨ (a = j ∧ b < t + 1) by omega), e.1, e.2]
            unfold nMx
            rw [if_pos (show mo U j k < 1000000000 ∧ mo U k t < 1000000000 from ⟨by omega, by omega⟩)]
          · rw [if_neg e, mW a b ha hb]
            by_cases e2 : a < j ∨ (a = j ∧ b < t)
            · rw [if_pos e2, if_pos (by omega)]
            · rw [if_neg e2, if_neg (by omega)]
