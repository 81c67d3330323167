/-! the class: what balance() leaves is the best point -/
def cst (S : ZS) (c : Nat) : Int := (S.1 10 c).toInt
theorem cst_W (S : ZS) : wcc S = wW (cst S) := rfl
theorem sI_lea {f : Nat → Int} {n a : Nat} (h : ∀ x, x < n → 0 ≤ f x) (ha : a < n) : f a ≤ sI f n := by
  have e := sI_upd (f := fup f a 0) (g := f) ha (fun x _ hx => (fup_n f 0 hx).symm)
  have p := sI_nn (f := fup f a 0) (n := n) (fun x hx => by
    unfold fup
    split
    · exact Int.le_refl _
    · exact h x hx)
  rw [fup_e] at e
  omega
theorem sI_bd {f : Nat → Int} {n : Nat} {K : Int} (h : ∀ x, x < n → -K ≤ f x ∧ f x ≤ K) : -(n * K) ≤ sI f n ∧ sI f n ≤ n * K := by
  induction n with
  | zero => simp [sI]
  | succ n ih =>
    have := ih (fun x hx => h x (by omega))
    have := h n (by omega)
    have e : ((n + 1 : Nat) : Int) * K = n * K + K := by rw [Int.natCast_add, Int.add_mul]; omega
    rw [sI_s, e]
    omega
theorem ev_bd {S : ZS} {nc nr r : Nat} {s x : Nat → Int} (hC : zC S nc nr) (hfl : flw S nc nr s) (hr : r < nr) (hx : inB (loc S) (hic S) nc x) : -110000 ≤ ev (gg S s) (bR S s) nc x r ∧ ev (gg S s) (bR S s) nc x r ≤ 110000 := by
  have b := bR_bd hC hfl.2.1 hr
  have h1 := hC.1
  have t := sI_bd (f := fun c => gg S s r c * x c) (n := nc) (K := 1000) (fun c hc => by
    have z := (hC.2.2.2.2.2.2.1 c hc).2.2.2.1
    unfold zok at z
    have y := hx c hc
    unfold loc hic at y
    rcases gg_3 hfl hr hc with e | e | e <;> rw [e] <;> omega)
  unfold ev
  omega
/-- what the arc of a row of kind 0 gives to a row -/
def slT (V : ZS) (s : Nat → Int) (r a : Nat) : Int := s r * ((if uA V a = r then xA V a else 0) - (if dA V a = r then xA V a else 0))
theorem slack_row {S V : ZS} {nc nr m r : Nat} {s : Nat → Int} (h2 : nr ≤ 8) (hfl : flw S nc nr s) (hl : laid S V s nc nr m) (h0 : ∀ v, v < 9 → nA V v = 0) (hr : r < nr) : s r * ev (gg S s) (bR S s) nc (xA V) r = sI (fun j => slT V s r (nc + j)) (m - nc) := by
  have hm := hl.2.1
  have e := hl.1.2.2.2.1 r (by omega)
  rw [h0 r (by omega)] at e
  have eb : bN S s nr r = bR S s r := by unfold bN; rw [if_pos hr]
  have ei : infl (uA V) (dA V) (xA V) m r = sI (fun c => gg S s r c * xA V c) nc + sI (fun j => (if uA V (nc + j) = r then xA V (nc + j) else 0) - (if dA V (nc + j) = r then xA V (nc + j) else 0)) (m - nc) := by
    have e1 := sI_split (fun a => (if uA V a = r then xA V a else 0) - (if dA V a = r then xA V a else 0)) nc (m - nc)
    rw [show nc + (m - nc) = m by omega] at e1
    unfold infl
    rw [e1, ← infl_row (ends_c hfl h2) hr]
    unfold infl
    rw [sI_congr (n := nc) (g := fun a => (if uA V a = r then xA V a else 0) - (if dA V a = r then xA V a else 0)) (h := fun a => (if upc S s nr a = r then xA V a else 0) - (if dnc S s nr a = r then xA V a else 0)) (fun c hc => by
      have := hl.2.2.1 c hc
      rw [this.1, this.2.1])]
  have e2 : sI (fun j => slT V s r (nc + j)) (m - nc) = s r * sI (fun j => (if uA V (nc + j) = r then xA V (nc + j) else 0) - (if dA V (nc + j) = r then xA V (nc + j) else 0)) (m - nc) := sI_mul _ _ _
  rw [e2]
  congr 1
  unfold ev
  omega
theorem slT_or {S V : ZS} {nc nr m r a : Nat} {s : Nat → Int} (h2 : nr ≤ 8) (hl : laid S V s nc nr m) (hr : r < nr) (h1 : nc ≤ a) (ha : a < m) : (slT V s r a = 0 ∧ ¬ slR V s a r) ∨ (slT V s r a = xA V a ∧ slR V s a r ∧ kap S r) := by
  obtain ⟨r', g1, g2, g3, g4, g5, g6, g7⟩ := hl.2.2.2.1 a h1 ha
  unfold slT
  by_cases e : r' = r
  · subst e
    refine Or.inr ⟨?_, g7, g2⟩
    rcases g7 with ⟨q1, q2, q3⟩ | ⟨q1, q2, q3⟩
    · rw [q1, q2, q3, if_pos rfl, if_neg (by omega)]; omega
    · rw [q1, q2, q3, if_neg (by omega), if_pos rfl]; omega
  · refine Or.inl ⟨?_, fun w => ?_⟩
    · rcases g7 with ⟨q1, q2, q3⟩ | ⟨q1, q2, q3⟩
      · rw [q2, q3, if_neg e, if_neg (by omega)]; omega
      · rw [q2, q3, if_neg (by omega), if_neg e]; omega
    · rcases g7 with ⟨q1, q2, q3⟩ | ⟨q1, q2, q3⟩ <;> rcases w with ⟨w1, w2, w3⟩ | ⟨w1, w2, w3⟩ <;> omega
theorem cl_pt {S V : ZS} {nc nr m : Nat} {s : Nat → Int} (h2 : nr ≤ 8) (hs : sgn nr s) (hfl : flw S nc nr s) (hl : laid S V s nc nr m) (h0 : ∀ v, v < 9 → nA V v = 0) : pt (gg S s) (bR S s) s (kap S) nr nc (loc S) (hic S) (xA V) := by
  have hm := hl.2.1
  refine ⟨fun c hc => ?_, fun r hr => ⟨fun k => ?_, fun k => ?_⟩⟩
  · have hc2 := hl.2.2.1 c hc
    have ok := hl.1.2.2.1 c (by omega)
    have a1 := ok.2.2.2.2.2.1
    have a2 := ok.2.2.2.2.2.2.1
    rw [hc2.2.2.1] at a1
    rw [hc2.2.2.2.1] at a2
    exact ⟨a1, a2⟩
  · rw [slack_row h2 hfl hl h0 hr]
    refine sI_nn (fun j hj => ?_)
    rcases slT_or h2 hl hr (show nc ≤ nc + j by omega) (show nc + j < m by omega) with ⟨e, _⟩ | ⟨e, _, _⟩
    · rw [e]; exact Int.le_refl _
    · rw [e]
      obtain ⟨r', g1, g2, g3, g4, g5, g6, g7⟩ := hl.2.2.2.1 (nc + j) (by omega) (by omega)
      have ok := (hl.1.2.2.1 (nc + j) (by omega)).2.2.2.2.2.1
      rw [g3] at ok
      exact ok
  · have e := slack_row h2 hfl hl h0 hr
    rw [sI_congr (h := fun _ => 0) (fun j hj => by
      rcases slT_or h2 hl hr (show nc ≤ nc + j by omega) (show nc + j < m by omega) with ⟨e, _⟩ | ⟨_, _, w⟩
      · exact e
      · exact absurd w k), sI_0] at e
    rcases hs r hr with w | w <;> rw [w] at e <;> omega
theorem cl_least {S V : ZS} {nc nr m : Nat} {s y : Nat → Int} (hC : zC S nc nr) (hfl : flw S nc nr s) (hl : laid S V s nc nr m) (hp : pot V m) (h0 : ∀ v, v < 9 → nA V v = 0) (hy : pt (gg S s) (bR S s) s (kap S) nr nc (loc S) (hic S) y) : valI (wW (cst S)) (xA V) nc ≤ valI (wW (cst S)) y nc := by
  have h2 := hC.2.1
  have hs := hfl.2.1
  have hm := hl.2.1
  have hx := cl_pt h2 hs hfl hl h0
  obtain ⟨π, hπ⟩ := hp
  have up : ∀ a, a < m → xA V a < hA V a → π (uA V a) ≤ π (dA V a) + wA V a := fun a ha hx => by
    have e := ev_0 V a
    have := hπ (2 * a) (by omega) (e.2.2.2.mpr hx)
    rw [e.1, e.2.1, e.2.2.1] at this
    exact this
  have dn : ∀ a, a < m → lA V a < xA V a → π (dA V a) ≤ π (uA V a) - wA V a := fun a ha hx => by
    have e := ev_1 V a
    have := hπ (2 * a + 1) (by omega) (e.2.2.2.mpr hx)
    rw [e.1, e.2.1, e.2.2.1] at this
    omega
  refine least_w hs h2 (ends_c hfl h2) (fun c _ => ends_8) (π := π) (fun c hc => ?_) (fun r hr k => ?_) hx hy
  · obtain ⟨q1, q2, q3, q4, q5, q6⟩ := hl.2.2.1 c hc
    have e : wW (cst S) c = wA V c := q5.symm
    have u := up c (by omega)
    have w := dn c (by omega)
    rw [q1, q2, q4] at u
    rw [q1, q2, q3] at w
    rw [e]
    exact ⟨fun h => by have := u h; omega, fun h => by have := w h; omega⟩
  · have sr := slack_row h2 hfl hl h0 hr
    have bd := ev_bd hC hfl hr hx.1
    have nn : ∀ j, j < m - nc → 0 ≤ slT V s r (nc + j) := fun j hj => by
      rcases slT_or h2 hl hr (show nc ≤ nc + j by omega) (show nc + j < m by omega) with ⟨e, _⟩ | ⟨e, _, _⟩
      · rw [e]; exact Int.le_refl _
      · rw [e]
        obtain ⟨r', g1, g2, g3, g4, g5, g6, g7⟩ := hl.2.2.2.1 (nc + j) (by omega) (by omega)
        have ok := (hl.1.2.2.1 (nc + j) (by omega)).2.2.2.2.2.1
        rw [g3] at ok
        exact ok
    have one : s r * (π r - π 8) ≤ 0 := by
      obtain ⟨a, a1, a2, a3⟩ := hl.2.2.2.2 r hr k
      obtain ⟨r', g1, g2, g3, g4, g5, g6, g7⟩ := hl.2.2.2.1 a a1 a2
      have le := sI_lea (f := fun j => slT V s r (nc + j)) (n := m - nc) (a := a - nc) nn (by omega)
      rw [← sr, show nc + (a - nc) = a by omega] at le
      have t : slT V s r a = xA V a := by
        rcases slT_or h2 hl hr a1 a2 with ⟨_, w⟩ | ⟨e, _, _⟩
        · exact absurd a3 w
        · exact e
      rw [t] at le
      have u := up a a2 (by rw [g4]; rcases hs r hr with e | e <;> rw [e] at le <;> omega)
      rw [g5] at u
      rcases a3 with ⟨w1, w2, w3⟩ | ⟨w1, w2, w3⟩
      · rw [w2, w3] at u; rw [w1]; omega
      · rw [w2, w3] at u; rw [w1]; omega
    refine ⟨one, fun pos => ?_⟩
    rw [sr] at pos
    have ex : ∃ j, j < m - nc ∧ 0 < slT V s r (nc + j) := by
      refine Classical.byContradiction (fun w => ?_)
      have : sI (fun j => slT V s r (nc + j)) (m - nc) ≤ 0 := by
        have := sI_mono (f := fun j => slT V s r (nc + j)) (g := fun _ => 0) (n := m - nc) (fun j hj => Int.not_lt.mp (fun g => w ⟨j, hj, g⟩))
        rw [sI_0] at this
        exact this
      omega
    obtain ⟨j, hj, pj⟩ := ex
    obtain ⟨r', g1, g2, g3, g4, g5, g6, g7⟩ := hl.2.2.2.1 (nc + j) (by omega) (by omega)
    rcases slT_or h2 hl hr (show nc ≤ nc + j by omega) (show nc + j < m by omega) with ⟨e, _⟩ | ⟨e, w, _⟩
    · omega
    · have w2 := dn (nc + j) (by omega) (by omega)
      rw [g5] at w2
      rcases w with ⟨w1, w3, w4⟩ | ⟨w1, w3, w4⟩
      · rw [w3, w4] at w2; rw [w1] at one; omega
      · rw [w3, w4] at w2; rw [w1] at one; omega
