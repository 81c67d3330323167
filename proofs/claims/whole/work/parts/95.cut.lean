/-! the class: needs met where no set shows anything; the set that shows it -/
def kap (S : ZS) (r : Nat) : Prop := S.1 11 r = 0
def loc (S : ZS) (c : Nat) : Int := (S.1 8 c).toInt
def hic (S : ZS) (c : Nat) : Int := (S.1 9 c).toInt
theorem ends_c {S : ZS} {nc nr : Nat} {s : Nat → Int} (h : flw S nc nr s) (h2 : nr ≤ 8) : ends (gg S s) nr nc (upc S s nr) (dnc S s nr) := fun c hc => by
  refine ⟨lastp_le h2, lastp_le h2, fun r hr => ?_⟩
  have u := upc_is h h2 hr hc
  have d := dnc_is h h2 hr hc
  rcases gg_3 h hr hc with e | e | e
  · rw [e, if_neg (fun w => by have := u.mp w; omega), if_pos (d.mpr e)]; rfl
  · rw [e, if_neg (fun w => by have := u.mp w; omega), if_neg (fun w => by have := d.mp w; omega)]; rfl
  · rw [e, if_pos (u.mpr e), if_neg (fun w => by have := d.mp w; omega)]; rfl
theorem ends_8 {S : ZS} {nr c : Nat} {s : Nat → Int} : (upc S s nr c < nr ∨ upc S s nr c = 8) ∧ (dnc S s nr c < nr ∨ dnc S s nr c = 8) := by
  unfold upc dnc
  refine ⟨?_, ?_⟩
  · rcases lastp_or (fun r => decide (0 < gg S s r c)) nr with h | h
    · exact Or.inl h.1
    · exact Or.inr h.1
  · rcases lastp_or (fun r => decide (gg S s r c < 0)) nr with h | h
    · exact Or.inl h.1
    · exact Or.inr h.1
theorem laid.x {S T U : ZS} {s : Nat → Int} {nc nr m : Nat} (h : laid S T s nc nr m) (hX : zXc T U) (hN : net U m (bN S s nr)) : laid S U s nc nr m := by
  have e26 := hX.2 26 (by decide) (by decide) (by decide) (by decide) (by decide)
  have e27 := hX.2 27 (by decide) (by decide) (by decide) (by decide) (by decide)
  have e28 := hX.2 28 (by decide) (by decide) (by decide) (by decide) (by decide)
  have e29 := hX.2 29 (by decide) (by decide) (by decide) (by decide) (by decide)
  have e30 := hX.2 30 (by decide) (by decide) (by decide) (by decide) (by decide)
  have e32 := hX.2 32 (by decide) (by decide) (by decide) (by decide) (by decide)
  obtain ⟨h1, h2, h3, h4, h5⟩ := h
  refine ⟨hN, h2, fun c hc => ?_, fun a ha hb => ?_, fun r hr hk => ?_⟩
  · have := h3 c hc
    unfold colA uA dA lA hA wA at *
    rw [e26, e27, e28, e29, e30, e32]
    exact this
  · obtain ⟨r, g1, g2, g3, g4, g5, g6, g7⟩ := h4 a ha hb
    refine ⟨r, g1, g2, ?_, ?_, ?_, ?_, ?_⟩
    · unfold lA at *; rw [e28]; exact g3
    · unfold hA at *; rw [e29]; exact g4
    · unfold wA at *; rw [e32]; exact g5
    · rw [e30]; exact g6
    · unfold slR uA dA at *; rw [e26, e27]; exact g7
  · obtain ⟨a, a1, a2, a3⟩ := h5 r hr hk
    refine ⟨a, a1, a2, ?_⟩
    unfold slR uA dA at *
    rw [e26, e27]
    exact a3
theorem bN_G (S : ZS) (s : Nat → Int) (nr : Nat) : bN S s nr = bG (bR S s) nr := rfl
/-- columns and free arcs apart -/
theorem gS_parts {S T : ZS} {s : Nat → Int} {nc nr m : Nat} {L H : Nat → Int} {Z : Nat → Bool} (h : laid S T s nc nr m) : gS (bN S s nr) 9 m (uA T) (dA T) L H Z = gS (bG (bR S s) nr) 9 nc (upc S s nr) (dnc S s nr) L H Z + sI (fun j => phi (L (nc + j)) (H (nc + j)) (Z (uA T (nc + j))) (Z (dA T (nc + j)))) (m - nc) := by
  have e := sI_split (fun c => phi (L c) (H c) (Z (uA T c)) (Z (dA T c))) nc (m - nc)
  rw [show nc + (m - nc) = m by have := h.2.1; omega] at e
  unfold gS
  rw [e, bN_G, sI_congr (n := nc) (g := fun c => phi (L c) (H c) (Z (uA T c)) (Z (dA T c))) (h := fun c => phi (L c) (H c) (Z (upc S s nr c)) (Z (dnc S s nr c))) (fun c hc => by
    have := h.2.2.1 c hc
    rw [this.1, this.2.1])]
  omega
theorem cut_1 {S U : ZS} {s : Nat → Int} {nc nr m : Nat} (h : laid S U s nc nr m) (h0 : ∀ v, v < 9 → nA U v = 0) : ∀ Z, alw (slG (kap S) s nr) Z → 0 ≤ gS (bG (bR S s) nr) 9 nc (upc S s nr) (dnc S s nr) (loc S) (hic S) Z := by
  intro Z hZ
  have hN := h.1
  have e := gS_parts (L := xA U) (H := xA U) (Z := Z) h
  rw [gS_need hN, sI_congr (h := fun _ => 0) (fun v hv => by rw [h0 v hv]; split <;> rfl), sI_0] at e
  have neg : sI (fun j => phi (xA U (nc + j)) (xA U (nc + j)) (Z (uA U (nc + j))) (Z (dA U (nc + j)))) (m - nc) ≤ 0 := by
    have m1 := sI_mono (f := fun j => phi (xA U (nc + j)) (xA U (nc + j)) (Z (uA U (nc + j))) (Z (dA U (nc + j)))) (g := fun _ => 0) (n := m - nc) (fun j hj => by
      have ha : nc + j < m := by omega
      obtain ⟨r, g1, g2, g3, g4, g5, g6, g7⟩ := h.2.2.2.1 (nc + j) (by omega) ha
      have ok := (hN.2.2.1 (nc + j) ha).2.2.2.2.2.1
      rw [g3] at ok
      unfold phi
      by_cases w1 : Z (uA U (nc + j)) = true ∧ Z (dA U (nc + j)) = false
      · rw [if_pos w1]; omega
      · rw [if_neg w1]
        by_cases w2 : Z (dA U (nc + j)) = true ∧ Z (uA U (nc + j)) = false
        · exfalso
          have ht : Z (uA U (nc + j)) = true := by
            rcases g7 with ⟨q1, q2, q3⟩ | ⟨q1, q2, q3⟩
            · rw [q2]; rw [q3] at w2; exact hZ 8 r ⟨r, g1, g2, Or.inl ⟨q1, rfl, rfl⟩⟩ w2.1
            · rw [q2]; rw [q3] at w2; exact hZ r 8 ⟨r, g1, g2, Or.inr ⟨q1, rfl, rfl⟩⟩ w2.1
          rw [w2.2] at ht
          exact absurd ht (by decide)
        · rw [if_neg w2]; exact Int.le_refl _)
    rw [sI_0] at m1
    exact m1
  refine hof_back (x := xA U) (fun c hc => ?_) (by omega)
  have hc2 := h.2.2.1 c hc
  have ok := hN.2.2.1 c (by have := h.2.1; omega)
  have a1 := ok.2.2.2.2.2.1
  have a2 := ok.2.2.2.2.2.2.1
  rw [hc2.2.2.1] at a1
  rw [hc2.2.2.2.1] at a2
  exact ⟨a1, a2⟩
theorem cut_0 {S T : ZS} {s : Nat → Int} {nc nr m : Nat} {Z : Nat → Bool} (hC : zC S nc nr) (hs : sgn nr s) (h : laid S T s nc nr m) (hg : gS (bN S s nr) 9 m (uA T) (dA T) (lA T) (hA T) Z < 0) : ∃ W, alw (slG (kap S) s nr) W ∧ gS (bG (bR S s) nr) 9 nc (upc S s nr) (dnc S s nr) (loc S) (hic S) W < 0 := by
  have h2 := hC.2.1
  have h1 := hC.1
  have e := gS_parts (L := lA T) (H := hA T) (Z := Z) h
  have same : gS (bG (bR S s) nr) 9 nc (upc S s nr) (dnc S s nr) (lA T) (hA T) Z = gS (bG (bR S s) nr) 9 nc (upc S s nr) (dnc S s nr) (loc S) (hic S) Z := by
    unfold gS
    rw [sI_congr (n := nc) (g := fun c => phi (lA T c) (hA T c) (Z (upc S s nr c)) (Z (dnc S s nr c))) (h := fun c => phi (loc S c) (hic S c) (Z (upc S s nr c)) (Z (dnc S s nr c))) (fun c hc => by
      have := h.2.2.1 c hc
      rw [this.2.2.1, this.2.2.2.1]
      rfl)]
  rw [same] at e
  have ge : ∀ j, j < m - nc → 0 ≤ phi (lA T (nc + j)) (hA T (nc + j)) (Z (uA T (nc + j))) (Z (dA T (nc + j))) := fun j hj => by
    obtain ⟨r, g1, g2, g3, g4, g5, g6, g7⟩ := h.2.2.2.1 (nc + j) (by omega) (by omega)
    rw [g3, g4]
    unfold phi
    split
    · omega
    · split <;> omega
  have ge0 := sI_mono (f := fun _ => 0) (g := fun j => phi (lA T (nc + j)) (hA T (nc + j)) (Z (uA T (nc + j))) (Z (dA T (nc + j)))) (n := m - nc) (fun j hj => ge j hj)
  rw [sI_0] at ge0
  refine ⟨Z, fun p q hsl hp => ?_, by omega⟩
  refine Classical.byContradiction (fun hq => ?_)
  have hq' : Z q = false := by cases w : Z q; rfl; exact absurd w hq
  -- a free arc leaves the set: too much room
  obtain ⟨r, hr, hk, hor⟩ := hsl
  obtain ⟨a, a1, a2, a3⟩ := h.2.2.2.2 r hr hk
  have one : phi (lA T a) (hA T a) (Z (uA T a)) (Z (dA T a)) = 1000000 := by
    obtain ⟨r', g1, g2, g3, g4, g5, g6, g7⟩ := h.2.2.2.1 a a1 a2
    have hud : uA T a = q ∧ dA T a = p := by
      rcases hor with ⟨q1, q2, q3⟩ | ⟨q1, q2, q3⟩ <;> rcases a3 with ⟨w1, w2, w3⟩ | ⟨w1, w2, w3⟩
      · exact ⟨by omega, by omega⟩
      · omega
      · omega
      · exact ⟨by omega, by omega⟩
    rw [hud.1, hud.2, g3, g4]
    unfold phi
    rw [hp, hq']
    simp
  have big : 1000000 ≤ sI (fun j => phi (lA T (nc + j)) (hA T (nc + j)) (Z (uA T (nc + j))) (Z (dA T (nc + j)))) (m - nc) := by
    have ej : nc + (a - nc) = a := by omega
    have u := sI_upd (f := fun _ => 0) (g := fup (fun _ => 0) (a - nc) 1000000) (n := m - nc) (c := a - nc) (by omega) (fun x _ hx => fup_n _ _ hx)
    rw [fup_e, sI_0] at u
    have mo := sI_mono (f := fup (fun _ => 0) (a - nc) 1000000) (g := fun j => phi (lA T (nc + j)) (hA T (nc + j)) (Z (uA T (nc + j))) (Z (dA T (nc + j)))) (n := m - nc) (fun j hj => by
      by_cases w : j = a - nc
      · rw [w, fup_e, ej, one]; exact Int.le_refl _
      · rw [fup_n _ _ w]; exact ge j hj)
    omega
  have bb : -800000 ≤ sI (fun v => if Z v = true then bG (bR S s) nr v else 0) 9 := by
    rw [bG_set h2]
    have c1 := sI_le (g := fun r => if Z r = true then 0 else bR S s r) (n := nr) (b := 100000) (fun r hr => by
      have := bR_bd hC hs hr
      split <;> omega)
    have c2 := sI_le (g := fun r => if Z r = true then bR S s r else 0) (n := nr) (b := 100000) (fun r hr => by
      have := bR_bd hC hs hr
      split <;> omega)
    split <;> omega
  have cc := sI_le (g := fun c => phi (loc S c) (hic S c) (Z (upc S s nr c)) (Z (dnc S s nr c))) (n := nc) (b := 1000) (fun c hc => by
    have hz := (hC.2.2.2.2.2.2.1 c hc).2.2.2.1
    unfold zok at hz
    unfold phi loc hic
    split
    · omega
    · split <;> omega)
  have lim : -810000 ≤ gS (bG (bR S s) nr) 9 nc (upc S s nr) (dnc S s nr) (loc S) (hic S) Z := by
    unfold gS
    omega
  omega
/-- as it is laid, nothing is lost, and the needs are not too many -/
theorem laid_0 {S T : ZS} {s : Nat → Int} {nc nr m : Nat} (hC : zC S nc nr) (hs : sgn nr s) (h : laid S T s nc nr m) (hx : ∀ a, nc ≤ a → a < m → xA T a = 0) : nsum T ∧ pS9 T ≤ 999999 := by
  have h2 := hC.2.1
  have h1 := hC.1
  have hN := h.1
  have hud : ∀ a, a < m → uA T a < 9 ∧ dA T a < 9 := fun a ha => by have := hN.2.2.1 a ha; unfold arcOK at this; omega
  have b0 : sI (bN S s nr) 9 = 0 := by
    have e := bG_set (b := bR S s) h2 (fun _ => true)
    rw [if_pos rfl] at e
    simp only [if_true] at e
    rw [sI_0] at e
    rw [bN_G]
    exact (show sI (bG (bR S s) nr) 9 = -0 from e).trans rfl
  have s0 : nsum T := by
    unfold nsum
    rw [sI_congr (h := fun v => bN S s nr v - infl (uA T) (dA T) (xA T) m v) (fun v hv => hN.2.2.2.1 v (by omega)), sI_sub, infl_sum hud, b0]
    rfl
  refine ⟨s0, ?_⟩
  have nb : ∀ v, v < 8 → -120000 ≤ nA T v ∧ nA T v ≤ 120000 := fun v hv => by
    have e1 := hN.2.2.2.1 v (by omega)
    have e2 : infl (uA T) (dA T) (xA T) m v = infl (uA T) (dA T) (xA T) nc v := sI_ext (fun a a1 a2 => by rw [hx a a1 a2]; split <;> split <;> rfl) h.2.1
    have e3 := sI_le (g := fun a => (if uA T a = v then xA T a else 0) - (if dA T a = v then xA T a else 0)) (n := nc) (b := 2000) (fun c hc => by
      have hz := (hC.2.2.2.2.2.2.1 c hc).2.2.2.1
      unfold zok at hz
      have hc2 := h.2.2.1 c hc
      have ok := hN.2.2.1 c (by have := h.2.1; omega)
      have q1 := ok.2.2.2.2.2.1
      have q2 := ok.2.2.2.2.2.2.1
      rw [hc2.2.2.1] at q1
      rw [hc2.2.2.2.1] at q2
      split <;> split <;> omega)
    have e4 : -100000 ≤ bN S s nr v ∧ bN S s nr v ≤ 100000 := by
      unfold bN
      split
      · exact bR_bd hC hs (by assumption)
      · rw [if_neg (by omega)]; omega
    have e5 : infl (uA T) (dA T) (xA T) nc v = sI (fun a => (if uA T a = v then xA T a else 0) - (if dA T a = v then xA T a else 0)) nc := rfl
    omega
  unfold pS9
  have e8 : sI (fun v => if 0 < nA T v then nA T v else 0) 9 = sI (fun v => if 0 < nA T v then nA T v else 0) 8 + (if 0 < nA T 8 then nA T 8 else 0) := rfl
  have e9 : sI (nA T) 9 = sI (nA T) 8 + nA T 8 := rfl
  have p1 := sI_le (g := fun v => (if 0 < nA T v then nA T v else 0)) (n := 8) (b := 120000) (fun v hv => by have := nb v hv; split <;> omega)
  have p2 := sI_le (g := fun v => (if 0 < nA T v then nA T v else 0) - nA T v) (n := 8) (b := 120000) (fun v hv => by have := nb v hv; split <;> omega)
  rw [sI_sub] at p2
  unfold nsum at s0
  rw [e8]
  have p2' : sI (fun v => if 0 < nA T v then nA T v else 0) 8 - sI (fun v => nA T v) 8 ≤ 8 * 120000 := p2.2
  have p3 : sI (fun v => nA T v) 8 = sI (nA T) 8 := rfl
  split <;> omega
