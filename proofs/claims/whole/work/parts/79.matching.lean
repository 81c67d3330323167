/-! knapsack(), matching() -/
theorem bit_1 {x : Int32} (h : zbit x) (g : ¬ x = 0) : x = 1 := h.elim (fun w => absurd w g) id
theorem bit_eq {v w : Int32} {p : Prop} (hv : zbit v) (hw : zbit w) (h : v = 1 ↔ p) (h' : w = 1 ↔ p) : v = w := by
  rcases hv with e | e <;> rcases hw with f | f
  · rw [e, f]
  · exact absurd (h.mpr (h'.mp f)) (by rw [e]; decide)
  · exact absurd (h'.mpr (h.mp e)) (by rw [f]; decide)
  · rw [e, f]
theorem bit_no {p : Prop} (h : ¬ p) : ((0 : Int32) = 1 ↔ p) := ⟨fun e => absurd e (by decide), fun e => absurd e h⟩
theorem bit_yes {p : Prop} (h : p) : ((1 : Int32) = 1 ↔ p) := ⟨fun _ => h, fun _ => rfl⟩
theorem bit_0 {x : Int32} {p : Prop} (g : x = 0) (h : x = 1 ↔ p) : ¬ p := fun w => by
  have := h.mpr w
  rw [g] at this
  exact absurd this (by decide)
/-- a loop that counts up to n, the counter anywhere -/
theorem zl_c {σ : Type} {b : σ → (σ → Prop) → Prop} (ctr : σ → Int32) (n : Nat) (J : Nat → σ → Prop) (hn : n < 2 ^ 31) (hs : ∀ (i : Nat) (s : σ) (k : σ → Prop), i ≤ n → ctr s = nI i → J i s → (i < n → ∀ s', ctr s' = nI (i + 1) → J (i + 1) s' → k s') → b s k) (s0 : σ) (h0 : ctr s0 = nI 0) (j0 : J 0 s0) : zl b s0 := by
  refine zl_of (fun y => ∃ i, i ≤ n ∧ ctr y = nI i ∧ J i y) (fun y => n - (ctr y).toNatClampNeg) (fun y k hy hk => ?_) _ ⟨0, Nat.zero_le _, h0, j0⟩
  obtain ⟨i, hi, e, hJ⟩ := hy
  refine hs i y k hi e hJ (fun hlt s' e' hs' => hk _ ⟨i + 1, hlt, e', hs'⟩ ?_)
  show n - (ctr s').toNatClampNeg < n - (ctr y).toNatClampNeg
  rw [e, e', nI_clamp (by omega), nI_clamp (by omega)]
  omega
def knh (S : ZS) (nr : Nat) : Prop := nr = 1 ∧ S.1 11 0 = 0 ∧ 0 ≤ (S.1 12 0).toInt ∧ (S.1 12 0).toInt ≤ 300
def kn (S : ZS) (nc nr : Nat) : Prop := knh S nr ∧ ∀ c, c < nc → 0 < (S.1 14 c).toInt ∧ S.1 8 c = 0
theorem kn_per {S T : ZS} {nc nr : Nat} (hp : zPer S T) : kn T nc nr ↔ kn S nc nr := by
  unfold kn knh
  rw [(hp.1 11 rfl).1, (hp.1 12 rfl).1, (hp.1 14 rfl).1, (hp.1 8 rfl).1]
theorem one_eq {n : Nat} (h : n ≤ 10) : nI n = (1 : Int32) ↔ n = 1 := by
  show nI n = nI 1 ↔ n = 1
  exact nI_eq (by omega) (by omega)
theorem x4_isKnapsack {nc nr : Nat} {S : ZS} {Q : Int32 → ZS → Prop} (hC : zC S nc nr) (q : ∀ v, zbit v → (v = 1 ↔ kn S nc nr) → Q v S) : X4_isKnapsack S Q := by
  obtain ⟨h1, h2, h3, h4, h5, h6, h7, h8, h9, h10, h11⟩ := hC
  have z0 : (0 : Int32).toNatClampNeg = 0 := by decide
  have c0 : (0 : Int32).toInt = 0 := by decide
  have c3 : (300 : Int32).toInt = 300 := by decide
  have hv : vp_in (0 : Int32) 8 := by
    show vp_in (nI 0) 8
    exact vp_in_nI (by omega) (by omega)
  have no : ¬ kn S nc nr → zbit (0 : Int32) ∧ Q 0 S := fun h => ⟨Or.inl rfl, q 0 (Or.inl rfl) (bit_no h)⟩
  unfold X4_isKnapsack X4_isKnapsack_b23 X4_isKnapsack_b52
  rw [z0, h4, one_eq (by omega)]
  refine ⟨fun g => ⟨hv, fun g2 => ⟨hv, fun g3 => no (fun h => ?_), fun g3 => ⟨hv, fun g4 => ?_, fun g4 => no (fun h => ?_)⟩⟩, fun g2 => no (fun h => g2 h.1.2.1)⟩, fun g => no (fun h => g h.1.1)⟩
  · rw [i_lt, c0] at g3
    have := h.1.2.2.1
    omega
  · rw [i_lt, c0] at g3
    rw [i_le, c3] at g4
    have hh : knh S nr := ⟨g, g2, by omega, g4⟩
    refine zl_up nc (fun i T => T = S ∧ ∀ c, c < i → 0 < (S.1 14 c).toInt ∧ S.1 8 c = 0) (by omega) (fun i T k hi hJ hk => ?_) S ⟨rfl, fun c hc => by omega⟩
    obtain ⟨rfl, hj⟩ := hJ
    show X4_isKnapsack_B56 (nI i) T Q k
    unfold X4_isKnapsack_B56 X4_isKnapsack_b101 X4_isKnapsack_b93
    rw [h3]
    refine ⟨fun z => ?_, fun z => ?_⟩
    · have := up_end (by omega) hi z
      subst this
      exact ⟨Or.inr rfl, q 1 (Or.inr rfl) (bit_yes ⟨hh, hj⟩)⟩
    · have hlt := up_on (by omega) hi z
      have hvi : vp_in (nI i) 10 := vp_in_nI (by omega) (by omega)
      have e14 : T.1 (14 + (0 : Int32).toNatClampNeg) (nI i).toNatClampNeg = T.1 14 i := by rw [z0, nI_clamp (by omega)]
      rw [e14, nI_clamp (by omega)]
      refine ⟨hv, hvi, fun g5 => no (fun h => ?_), fun g5 => ⟨hvi, fun g6 w ew => ?_, fun g6 => no (fun h => g6 (h.2 i hlt).2)⟩⟩
      · rw [i_le, c0] at g5
        have := (h.2 i hlt).1
        omega
      · rw [i_le, c0] at g5
        rw [nI_1] at ew
        subst ew
        refine hk hlt _ ⟨rfl, fun c hc => ?_⟩
        by_cases e : c = i
        · rw [e]; exact ⟨by omega, g6⟩
        · exact hj c (by omega)
  · rw [i_le, c3] at g4
    exact g4 h.1.2.2.2
theorem x7_isKnapsack {nc nr : Nat} {S : ZS} {Q : Int32 → ZS → Prop} (hC : zC S nc nr) (q : ∀ v, zbit v → (v = 1 ↔ kn S nc nr) → Q v S) : X7_isKnapsack S Q := by
  obtain ⟨h1, h2, h3, h4, h5, h6, h7, h8, h9, h10, h11⟩ := hC
  have z0 : (0 : Int32).toNatClampNeg = 0 := by decide
  have c0 : (0 : Int32).toInt = 0 := by decide
  have d0 : (0 : Int64).toInt = 0 := by decide
  have d3 : (300 : Int64).toInt = 300 := by decide
  have hv : vp_in (0 : Int32) 8 := by
    show vp_in (nI 0) 8
    exact vp_in_nI (by omega) (by omega)
  have lp : ∀ t : Int32, zbit t → (t = 1 ↔ knh S nr) → zl (X7_isKnapsack_L42 Q) (t, (0 : Int32), S) := by
    intro t ht e
    refine zl_up2 nc (fun i x T => T = S ∧ zbit x ∧ (x = 1 ↔ knh S nr ∧ ∀ c, c < i → 0 < (S.1 14 c).toInt ∧ S.1 8 c = 0)) (by omega) (fun i x T k hi hJ hk => ?_) t S ⟨rfl, ht, e.trans ⟨fun h => ⟨h, fun c hc => by omega⟩, fun h => h.1⟩⟩
    obtain ⟨rfl, hz, hx⟩ := hJ
    show X7_isKnapsack_B42 x (nI i) T Q k
    unfold X7_isKnapsack_B42 X7_isKnapsack_b84 X7_isKnapsack_b76 X7_isKnapsack_b77
    rw [h5]
    refine ⟨fun z => ⟨hz, q x hz ?_⟩, fun z => ?_⟩
    · have := up_end (by omega) hi z
      subst this
      exact hx
    · have hlt := up_on (by omega) hi z
      have fin : ∀ v w : Int32, zbit v → (v = 1 ↔ knh T nr ∧ ∀ c, c < i + 1 → 0 < (T.1 14 c).toInt ∧ T.1 8 c = 0) → w = nI i + 1 → k (v, w, T) := by
        intro v w hv hv2 ew
        rw [nI_1] at ew
        subst ew
        exact hk hlt _ _ ⟨rfl, hv, hv2⟩
      refine ⟨fun g w ew => fin 0 w (Or.inl rfl) (bit_no (fun h => bit_0 g hx ⟨h.1, fun c hc => h.2 c (by omega)⟩)) ew, fun g => ?_⟩
      have hx1 := hx.mp (bit_1 hz g)
      have hn : nr = 1 := hx1.1.1
      have e67 : T.1 67 (10 * 0 + i) = T.1 14 i := h9 0 i (by omega) hlt
      refine x7_coef (r := 0) (by omega) (by omega) ?_
      rw [e67, nI_clamp (by omega), (h7 i hlt).1]
      refine ⟨fun g2 w ew => fin 0 w (Or.inl rfl) (bit_no (fun h => ?_)) ew, fun g2 => ⟨vp_in_nI (by omega) (by omega), fun g3 w ew => fin 1 w (Or.inr rfl) (bit_yes ⟨hx1.1, fun c hc => ?_⟩) ew, fun g3 w ew => fin 0 w (Or.inl rfl) (bit_no (fun h => g3 (h.2 i (by omega)).2)) ew⟩⟩
      · rw [i_le, c0] at g2
        have := (h.2 i (by omega)).1
        omega
      · rw [i_le, c0] at g2
        by_cases e : c = i
        · rw [e]; exact ⟨by omega, g3⟩
        · exact hx1.2 c (by omega)
  unfold X7_isKnapsack X7_isKnapsack_b38 X7_isKnapsack_b39
  rw [z0, h6, one_eq (by omega)]
  refine ⟨fun g => ⟨hv, ?_⟩, fun g => lp 0 (Or.inl rfl) (bit_no (fun h => g h.1))⟩
  have e8 := h8 0 (by omega)
  rw [e8.1, e8.2.1]
  refine ⟨fun g2 => ⟨hv, m_within ?_⟩, fun g2 => lp 0 (Or.inl rfl) (bit_no (fun h => g2 h.2.1))⟩
  rw [zb_0, d0, d3, l_i]
  exact ⟨fun g3 => lp 0 (Or.inl rfl) (bit_no (fun h => g3 ⟨h.2.2.1, h.2.2.2⟩)), fun g3 => lp 1 (Or.inr rfl) (bit_yes ⟨g, g2, (Classical.not_not.mp g3).1, (Classical.not_not.mp g3).2⟩)⟩
theorem k_13 {y1 y2 y3 : Int32} {S : ZS} {N : ZS → Prop} (h : Inv S) (hN : ∀ T, Inv T → N T) : lawc_13 y1 y2 y3 S N := by
  have hI := h
  obtain ⟨nc, nr, hC, hSol⟩ := h
  unfold lawc_13 X6_knapsack X7_knapsack
  refine x4_isKnapsack hC (fun v hv ev => ⟨hv, fun U eU => ?_⟩)
  have hp : zPer S U := by rw [eU]; exact (zPer.rf S).u61 (Or.inl rfl)
  refine x7_isKnapsack (hC.per hp) (fun w hw ew => ⟨hw, ?_⟩)
  rw [kn_per hp] at ew
  exact ⟨fun _ => hN U (hI.per hp), fun g => absurd (bit_eq hv hw ev ew) g⟩
/-- matching -/
def mrow (S : ZS) (nc r : Nat) : Prop := S.1 12 r = 1 ∧ ∀ c, c < nc → 0 ≤ aC S r c
def mcol (S : ZS) (c : Nat) : Prop := S.1 8 c = 0 ∧ S.1 9 c = 1
def mt (S : ZS) (nc nr : Nat) : Prop := (∀ c, c < nc → mcol S c) ∧ ∀ r, r < nr → mrow S nc r
theorem aC_per {S T : ZS} {r c : Nat} (hp : zPer S T) (hr : r < 8) : aC T r c = aC S r c := by
  unfold aC
  rw [(hp.1 (14 + r) (zper_row hr)).1]
theorem mt_per {S T : ZS} {nc nr : Nat} (hp : zPer S T) (hn : nr ≤ 8) : mt T nc nr ↔ mt S nc nr := by
  have e : ∀ r, r < nr → (mrow T nc r ↔ mrow S nc r) := fun r hr => by
    unfold mrow
    rw [(hp.1 12 rfl).1]
    exact and_congr Iff.rfl ⟨fun h c hc => by rw [← aC_per hp (by omega)]; exact h c hc, fun h c hc => by rw [aC_per hp (by omega)]; exact h c hc⟩
  unfold mt mcol
  rw [(hp.1 8 rfl).1, (hp.1 9 rfl).1]
  exact and_congr Iff.rfl ⟨fun h r hr => (e r hr).mp (h r hr), fun h r hr => (e r hr).mpr (h r hr)⟩
theorem x4_hasTermBelowZero {r nc : Nat} {S : ZS} {Q : Int32 → ZS → Prop} (h3 : S.1 1 0 = nI nc) (h1 : nc ≤ 10) (hr : r < 8) (q1 : ¬ (∀ c, c < nc → 0 ≤ aC S r c) → Q 1 S) (q0 : (∀ c, c < nc → 0 ≤ aC S r c) → Q 0 S) : X4_hasTermBelowZero (nI r) S Q := by
  have c0 : (0 : Int32).toInt = 0 := by decide
  unfold X4_hasTermBelowZero
  refine zl_up nc (fun i T => T = S ∧ ∀ c, c < i → 0 ≤ aC S r c) (by omega) (fun i T k hi hJ hk => ?_) S ⟨rfl, fun c hc => by omega⟩
  obtain ⟨rfl, hj⟩ := hJ
  show X4_hasTermBelowZero_B2 (nI r) (nI i) T Q k
  unfold X4_hasTermBelowZero_B2 X4_hasTermBelowZero_b35 X4_hasTermBelowZero_b27
  rw [h3]
  refine ⟨fun z => ?_, fun z => ?_⟩
  · have := up_end (by omega) hi z
    subst this
    exact ⟨Or.inl rfl, q0 hj⟩
  · have hlt := up_on (by omega) hi z
    rw [nI_clamp (by omega), nI_clamp (by omega), i_le, c0]
    refine ⟨vp_in_nI (by omega) (by omega), vp_in_nI (by omega) (by omega), fun g w ew => ?_, fun g => ⟨Or.inr rfl, q1 (fun h => g (h i hlt))⟩⟩
    rw [nI_1] at ew
    subst ew
    refine hk hlt _ ⟨rfl, fun c hc => ?_⟩
    by_cases e : c = i
    · rw [e]; exact g
    · exact hj c (by omega)
theorem x4_isMatching {nc nr : Nat} {S : ZS} {Q : Int32 → ZS → Prop} (hC : zC S nc nr) (q : ∀ x T v, zPer S T → fR (aC S) nr nc x → zbit v → (v = 1 ↔ x = -1 ∧ mt S nc nr) → Q v T) : X4_isMatching S Q := by
  unfold X4_isMatching
  refine i4_findSigns hC (fun x T hp hx _ => ⟨fun ex => ?_, fun ex => ⟨Or.inl rfl, q x T 0 hp hx (Or.inl rfl) (bit_no (fun h => ex h.1))⟩⟩)
  have mp := mt_per (nc := nc) hp hC.2.1
  obtain ⟨h1, h2, h3, h4, h5, h6, h7, h8, h9, h10, h11⟩ := hC.per hp
  have no : ¬ mt T nc nr → zbit (0 : Int32) ∧ Q 0 T := fun h => ⟨Or.inl rfl, q x T 0 hp hx (Or.inl rfl) (bit_no (fun w => h (mp.mpr w.2)))⟩
  refine zl_up nc (fun i U => U = T ∧ ∀ c, c < i → mcol T c) (by omega) (fun i U k hi hJ hk => ?_) T ⟨rfl, fun c hc => by omega⟩
  obtain ⟨rfl, hj⟩ := hJ
  show X4_isMatching_B12 (nI i) U Q k
  unfold X4_isMatching_B12 X4_isMatching_b56 X4_isMatching_b48
  rw [h3]
  refine ⟨fun z => ?_, fun z => ?_⟩
  · have := up_end (by omega) hi z
    subst this
    refine zl_up nr (fun r V => V = U ∧ ∀ p, p < r → mrow U i p) (by omega) (fun r V k2 hr hJ hk2 => ?_) U ⟨rfl, fun c hc => by omega⟩
    obtain ⟨rfl, hj2⟩ := hJ
    show X4_isMatching_B58 (nI r) V Q k2
    unfold X4_isMatching_B58 X4_isMatching_b98 X4_isMatching_b90
    rw [h4]
    refine ⟨fun z2 => ?_, fun z2 => ?_⟩
    · have := up_end (by omega) hr z2
      subst this
      exact ⟨Or.inr rfl, q x V 1 hp hx (Or.inr rfl) (bit_yes ⟨ex, mp.mp ⟨hj, hj2⟩⟩)⟩
    · have hlt := up_on (by omega) hr z2
      rw [nI_clamp (by omega)]
      refine ⟨vp_in_nI (by omega) (by omega), fun g => ?_, fun g => no (fun h => g (h.2 r hlt).1)⟩
      refine x4_hasTermBelowZero h3 (by omega) (by omega) (fun g2 => ⟨fun e => absurd e (by decide), fun _ => no (fun h => g2 (h.2 r hlt).2)⟩) (fun g2 => ⟨fun _ w ew => ?_, fun e => absurd rfl e⟩)
      rw [nI_1] at ew
      subst ew
      refine hk2 hlt _ ⟨rfl, fun c hc => ?_⟩
      by_cases e : c = r
      · rw [e]; exact ⟨g, g2⟩
      · exact hj2 c (by omega)
  · have hlt := up_on (by omega) hi z
    rw [nI_clamp (by omega)]
    have hvi : vp_in (nI i) 10 := vp_in_nI (by omega) (by omega)
    refine ⟨hvi, fun g => ⟨hvi, fun g2 w ew => ?_, fun g2 => no (fun h => g2 (h.1 i hlt).2)⟩, fun g => no (fun h => g (h.1 i hlt).1)⟩
    rw [nI_1] at ew
    subst ew
    refine hk hlt _ ⟨rfl, fun c hc => ?_⟩
    by_cases e : c = i
    · rw [e]; exact ⟨g, g2⟩
    · exact hj c (by omega)
theorem x7_mloop {nc nr : Nat} {S : ZS} {Q : Int32 → ZS → Prop} {F : Prop} {t : Int32} (hC : zC S nc nr) (hF : F → ∀ r c, r < nr → c < nc → aC S r c ≤ 1) (ht : zbit t) (et : t = 1 ↔ F) (q : ∀ v, zbit v → (v = 1 ↔ F ∧ mt S nc nr) → Q v S) : X7_matching_b18 t S Q := by
  have hb := hC.bd
  obtain ⟨h1, h2, h3, h4, h5, h6, h7, h8, h9, h10, h11⟩ := hC
  have d0 : (0 : Int64).toInt = 0 := by decide
  have d1 : (1 : Int64).toInt = 1 := by decide
  unfold X7_matching_b18
  refine zl_up2 nr (fun r x T => T = S ∧ zbit x ∧ (x = 1 ↔ F ∧ ∀ p, p < r → mrow S nc p)) (by omega) (fun r x T k hr hJ hk => ?_) t S ⟨rfl, ht, et.trans ⟨fun h => ⟨h, fun c hc => by omega⟩, fun h => h.1⟩⟩
  obtain ⟨rfl, hz, hx⟩ := hJ
  show X7_matching_B21 x (nI r) T Q k
  unfold X7_matching_B21 X7_matching_b96 X7_matching_b47 X7_matching_b48
  rw [h6]
  refine ⟨fun z => ?_, fun z => ?_⟩
  · have := up_end (by omega) hr z
    subst this
    refine zl_up2 nc (fun i y U => U = T ∧ zbit y ∧ (y = 1 ↔ F ∧ (∀ c, c < i → mcol T c) ∧ ∀ p, p < r → mrow T nc p)) (by omega) (fun i y U k2 hi hJ hk2 => ?_) x T ⟨rfl, hz, hx.trans ⟨fun h => ⟨h.1, fun c hc => by omega, h.2⟩, fun h => ⟨h.1, h.2.2⟩⟩⟩
    obtain ⟨rfl, hzy, hy⟩ := hJ
    show X7_matching_B98 y (nI i) U Q k2
    unfold X7_matching_B98 X7_matching_b141 X7_matching_b133 X7_matching_b134
    rw [h5]
    refine ⟨fun z2 => ⟨hzy, q y hzy ?_⟩, fun z2 => ?_⟩
    · have := up_end (by omega) hi z2
      subst this
      exact hy
    · have hlt := up_on (by omega) hi z2
      have hvi : vp_in (nI i) 10 := vp_in_nI (by omega) (by omega)
      have fin : ∀ v w : Int32, zbit v → (v = 1 ↔ F ∧ (∀ c, c < i + 1 → mcol U c) ∧ ∀ p, p < r → mrow U nc p) → w = nI i + 1 → k2 (v, w, U) := by
        intro v w hv hv2 ew
        rw [nI_1] at ew
        subst ew
        exact hk2 hlt _ _ ⟨rfl, hv, hv2⟩
      have no : ∀ w : Int32, ¬ (F ∧ (∀ c, c < i + 1 → mcol U c) ∧ ∀ p, p < r → mrow U nc p) → w = nI i + 1 → k2 (0, w, U) := fun w h ew => fin 0 w (Or.inl rfl) (bit_no h) ew
      rw [nI_clamp (by omega), (h7 i hlt).1, (h7 i hlt).2.1]
      refine ⟨fun g w ew => no w (fun h => bit_0 g hy ⟨h.1, fun c hc => h.2.1 c (by omega), h.2.2⟩) ew, fun g => ⟨hvi, fun g2 => ⟨hvi, fun g3 w ew => ?_, fun g3 w ew => no w (fun h => g3 (h.2.1 i (by omega)).2) ew⟩, fun g2 w ew => no w (fun h => g2 (h.2.1 i (by omega)).1) ew⟩⟩
      have hy1 := hy.mp (bit_1 hzy g)
      refine fin 1 w (Or.inr rfl) (bit_yes ⟨hy1.1, fun c hc => ?_, hy1.2.2⟩) ew
      by_cases e : c = i
      · rw [e]; exact ⟨g2, g3⟩
      · exact hy1.2.1 c (by omega)
  · have hlt := up_on (by omega) hr z
    have inner : ∀ u : Int32, zbit u → (u = 1 ↔ F ∧ (∀ p, p < r → mrow T nc p) ∧ T.1 12 r = 1) → zl (X7_matching_L51 (nI r) Q k) (u, (0 : Int32), T) := by
      intro u hu eu
      refine zl_up2 nc (fun i y U => U = T ∧ zbit y ∧ (y = 1 ↔ (F ∧ (∀ p, p < r → mrow T nc p) ∧ T.1 12 r = 1) ∧ ∀ c, c < i → 0 ≤ aC T r c)) (by omega) (fun i y U k2 hi hJ hk2 => ?_) u T ⟨rfl, hu, eu.trans ⟨fun h => ⟨h, fun c hc => by omega⟩, fun h => h.1⟩⟩
      obtain ⟨rfl, hzy, hy⟩ := hJ
      show X7_matching_B51 (nI r) y (nI i) U Q k k2
      unfold X7_matching_B51 X7_matching_b90 X7_matching_b82 X7_matching_b83
      rw [h5]
      refine ⟨fun z2 w ew => ?_, fun z2 => ?_⟩
      · have := up_end (by omega) hi z2
        subst this
        rw [nI_1] at ew
        subst ew
        refine hk hlt _ _ ⟨rfl, hzy, hy.trans ⟨fun h => ⟨h.1.1, fun p hp => ?_⟩, fun h => ⟨⟨h.1, fun p hp => h.2 p (by omega), (h.2 r (by omega)).1⟩, (h.2 r (by omega)).2⟩⟩⟩
        by_cases e : p = r
        · rw [e]; exact ⟨h.1.2.2, h.2⟩
        · exact h.1.2.1 p (by omega)
      · have hil := up_on (by omega) hi z2
        have fin : ∀ v w : Int32, zbit v → (v = 1 ↔ (F ∧ (∀ p, p < r → mrow U nc p) ∧ U.1 12 r = 1) ∧ ∀ c, c < i + 1 → 0 ≤ aC U r c) → w = nI i + 1 → k2 (v, w, U) := by
          intro v w hv hv2 ew
          rw [nI_1] at ew
          subst ew
          exact hk2 hil _ _ ⟨rfl, hv, hv2⟩
        refine ⟨fun g w ew => fin 0 w (Or.inl rfl) (bit_no (fun h => bit_0 g hy ⟨h.1, fun c hc => h.2 c (by omega)⟩)) ew, fun g => ?_⟩
        have hy1 := hy.mp (bit_1 hzy g)
        refine x7_coef (by omega) (by omega) (m_within ?_)
        have e67 : (U.1 67 (10 * r + i)).toInt = aC U r i := (hb r i hlt hil).1
        rw [zb_0, d0, d1, l_i, e67]
        have hle := hF hy1.1.1 r i hlt hil
        refine ⟨fun g2 w ew => fin 0 w (Or.inl rfl) (bit_no (fun h => g2 ⟨h.2 i (by omega), hle⟩)) ew, fun g2 w ew => fin 1 w (Or.inr rfl) (bit_yes ⟨hy1.1, fun c hc => ?_⟩) ew⟩
        by_cases e : c = i
        · rw [e]; exact (Classical.not_not.mp g2).1
        · exact hy1.2 c (by omega)
    have e8 := (h8 r hlt).2.1
    rw [nI_clamp (by omega), e8]
    refine ⟨fun g => inner 0 (Or.inl rfl) (bit_no (fun h => bit_0 g hx ⟨h.1, h.2.1⟩)), fun g => ⟨vp_in_nI (by omega) (by omega), fun g2 => ?_, fun g2 => inner 0 (Or.inl rfl) (bit_no (fun h => g2 h.2.2))⟩⟩
    have hx1 := hx.mp (bit_1 hz g)
    exact inner 1 (Or.inr rfl) (bit_yes ⟨hx1.1, hx1.2, g2⟩)
theorem k_14 {y1 y2 y3 : Int32} {S : ZS} {N : ZS → Prop} (h : Inv S) (hN : ∀ T, Inv T → N T) : lawc_14 y1 y2 y3 S N := by
  have hI := h
  obtain ⟨nc, nr, hC, hSol⟩ := h
  unfold lawc_14 X6_matching X7_matching
  refine x4_isMatching hC (fun x T v hp hx hv ev => ⟨hv, fun U eU => ?_⟩)
  have hp2 : zPer S U := by rw [eU]; exact hp.u61 (Or.inl rfl)
  have fin : ∀ t : Int32, zbit t → (t = 1 ↔ x = -1) → X7_matching_b18 t U (fun r_747 S_747 => (v = r_747 → N S_747) ∧ (¬ v = r_747 → False)) := by
    intro t ht et
    refine x7_mloop (hC.per hp2) (fun ex r c hr hc => ?_) ht et (fun w hw ew => ?_)
    · rw [aC_per hp2 (by have := hC.2.1; omega)]
      rw [ex] at hx
      exact (((hx.flow hC.1).1 c hc).1 r hr).2
    · rw [mt_per hp2 hC.2.1] at ew
      exact ⟨fun _ => hN U (hI.per hp2), fun g => absurd (bit_eq hv hw ev ew) g⟩
  exact i7_flowReason hC hp2 hx ⟨fun g => fin 1 (Or.inr rfl) (bit_yes g), fun g => fin 0 (Or.inl rfl) (bit_no g)⟩
