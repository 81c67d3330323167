/-! the bound on the turns, out of forms for graphs -/
/-- for each graph a form that is small on its rings and large enough -/
def hkCE : Prop := ∀ eu ev : Nat → Nat, (∀ c, c < 10 → eu c < 9 ∧ ev c < 9 ∧ eu c ≠ ev c) → ∃ (Q : Nat → Nat → Rat) (g t W : Rat), hky Q ∧ hkP 10 Q ∧ 0 < t ∧ (∀ z : Nat → Int, hkRG eu ev z → hkQ 10 Q (fun c => (z c : Rat)) ≤ g) ∧
  (∀ x : Nat → Rat, (∀ c, c < 10 → -2000 ≤ x c ∧ x c ≤ 2000) → hkQ 10 Q x ≤ W) ∧ (g + t) ^ 10 * W < t * hkD 10 Q * (((10000000 : Nat) : Int) * ((10000000 : Nat) : Int) : Rat)
theorem rpow_nn {a : Rat} (h : 0 ≤ a) : ∀ n : Nat, 0 ≤ a ^ n := fun n => by
  induction n with
  | zero => have : a ^ 0 = 1 := by grind
            rw [this]; decide
  | succ n ih =>
    have : a ^ (n + 1) = a * a ^ n := by grind
    rw [this]
    exact Rat.mul_nonneg h ih
theorem hR_sI {n : Nat} {f : Nat → Int} : hR n (fun i => ((f i : Int) : Rat)) = ((sI f n : Int) : Rat) := by
  induction n with
  | zero => rfl
  | succ n ih => rw [hR_last, ih, sI_s, Rat.intCast_add]
theorem hkRG_U {eu ev : Nat → Nat} {c : Nat} (h : eu c < 9 ∧ ev c < 9 ∧ eu c ≠ ev c) (hc : c < 10) : hkRG eu ev (hkU c) := by
  have u0 : ∀ d, d ≠ c → hkU c d = 0 := fun d hd => by unfold hkU; rw [if_neg hd]
  have u1 : hkU c c = 1 := by unfold hkU; rw [if_pos rfl]
  have dv : ∀ v, hkdv eu ev (hkU c) v = iv (ev c) v - iv (eu c) v := fun v => by
    unfold hkdv
    rw [sI_pk (a := c) hc (fun d _ hne => by rw [u0 d hne]; exact Int.mul_zero _), u1]
    omega
  refine ⟨fun d _ => ?_, fun v _ => ?_, ⟨ev c, eu c, h.2.1, h.1, fun v _ => dv v⟩, fun d e _ _ hde _ zd ze => ?_, fun A _ => ?_⟩
  · by_cases q : d = c
    · rw [q, u1]; omega
    · rw [u0 d q]; omega
  · rw [dv, sI_pk (a := c) hc (fun d _ hne => by rw [u0 d hne]; split <;> rfl), u1]
    unfold iv
    have := h.2.2
    by_cases q1 : ev c = v
    · rw [if_pos q1, if_neg (by omega), if_pos (Or.inr q1)]; decide
    · by_cases q2 : eu c = v
      · rw [if_neg q1, if_pos q2, if_pos (Or.inl q2)]; decide
      · rw [if_neg q1, if_neg q2, if_neg (fun q => q.elim q2 q1)]; decide
  · by_cases q : d = c
    · exact absurd (u0 e (by omega)) ze
    · exact absurd (u0 d q) zd
  · have only : ∀ d, hkU c d ≠ 0 → d = c := fun d hz => Classical.byContradiction fun n => hz (u0 d n)
    by_cases g : A (eu c)
    · exact Or.inl (fun d _ hz => by rw [only d hz]; exact g)
    · exact Or.inr (fun d _ hz => by rw [only d hz]; exact g)
/-- a turn adds a ring some times -/
theorem rg_ex {S : ZS} {s x y : Nat → Int} {nc nr : Nat} (h1 : nc ≤ 10) (h2 : nr ≤ 8) (h : rgO S s nc nr x y) :
    ∃ (z : Nat → Int) (R : Int), 1 ≤ R ∧ hkRG (rgu (fun c => rn nr (dnc S s nr c)) (fun c => rn nr (upc S s nr c)) nc) (rgv (fun c => rn nr (dnc S s nr c)) (fun c => rn nr (upc S s nr c)) nc) z ∧ sI (fun c => cst S c * z c) nc ≤ -1 ∧ (∀ c, c < nc → y c = x c + R * z c) ∧ ∀ c, nc ≤ c → c < 10 → z c = 0 := by
  obtain ⟨P, M, w, o, R, r1, hK, hM, hd, hw, hy⟩ := h
  have rl : ∀ v, rn nr v ≤ nr := fun v => by unfold rn; split <;> omega
  have hP : 1 ≤ P := by
    rcases Nat.eq_zero_or_pos P with q | q
    · rw [q] at hw; exact absurd (show (0 : Int) < 0 from hw) (by decide)
    · exact q
  refine ⟨fun c => sI (fun t => uc (o t) c) P, R, r1, rg_abs h1 h2 hP (fun c _ => ⟨rl _, rl _⟩) (fun t ht => ?_) hM hd, ?_, fun c hc => hy c hc, fun c hc hc2 => ?_⟩
  · rcases hK t ht with ⟨c, a1, a2, a3, a4, a5, a6⟩ | ⟨c, a1, a2, a3, a4, a5, a6⟩ | ⟨r', a1, a2, a3, a4, a5, a6⟩ | ⟨r', a1, a2, a3, a4, a5, a6, a7⟩
    · exact Or.inl ⟨c, a1, a6, a3, a4⟩
    · exact Or.inr (Or.inl ⟨c, a1, a6, a3, a4⟩)
    · refine Or.inr (Or.inr ⟨by omega, ?_⟩)
      unfold uS at a4
      unfold dS at a3
      have e8 : rn nr 8 = nr := by unfold rn; rw [if_neg (by omega)]
      have er : rn nr r' = r' := by unfold rn; rw [if_pos a1]
      by_cases q : s r' = 1
      · rw [if_pos q] at a3 a4
        rw [e8] at a3; rw [er] at a4
        exact Or.inr ⟨by omega, a3, by omega⟩
      · rw [if_neg q] at a3 a4
        rw [er] at a3; rw [e8] at a4
        exact Or.inl ⟨a4, by omega, by omega⟩
    · refine Or.inr (Or.inr ⟨by omega, ?_⟩)
      unfold uS at a4
      unfold dS at a5
      have e8 : rn nr 8 = nr := by unfold rn; rw [if_neg (by omega)]
      have er : rn nr r' = r' := by unfold rn; rw [if_pos a1]
      by_cases q : s r' = 1
      · rw [if_pos q] at a4 a5
        rw [er] at a4; rw [e8] at a5
        exact Or.inl ⟨a5, by omega, by omega⟩
      · rw [if_neg q] at a4 a5
        rw [e8] at a4; rw [er] at a5
        exact Or.inr ⟨by omega, a4, by omega⟩
  · have e1 : sI (fun c => cst S c * sI (fun t => uc (o t) c) P) nc = sI w P := by
      rw [sI_congr (g := fun c => cst S c * sI (fun t => uc (o t) c) P) (h := fun c => sI (fun t => cst S c * uc (o t) c) P) (fun c _ => (sI_mul _ _ _).symm), ← sI_swap]
      exact sI_congr (fun t ht => (eK_w h1 (hK t ht)).symm)
    show sI (fun c => cst S c * sI (fun t => uc (o t) c) P) nc ≤ -1
    rw [e1]
    omega
  · show sI (fun t => uc (o t) c) P = 0
    rw [sI_congr (h := fun _ => 0) (fun t ht => ?_), sI_0]
    rcases hK t ht with ⟨c', a1, a2, a3, a4, a5, a6⟩ | ⟨c', a1, a2, a3, a4, a5, a6⟩ | ⟨r', a1, a2, a3, a4, a5, a6⟩ | ⟨r', a1, a2, a3, a4, a5, a6, a7⟩
    · exact uc_n (Or.inl a6) (by omega)
    · exact uc_n (Or.inr a6) (by omega)
    · exact uc_b hc2 (by omega)
    · exact uc_b hc2 (by omega)
theorem chN_no {S : ZS} {s x y : Nat → Int} {nc nr : Nat} (hCE : hkCE) (hC : zC S nc nr) (hy : ptS S s nc nr y) (h : chN S s nc nr x y 10000000) : False := by
  have h1 := hC.1
  have h2 := hC.2.1
  obtain ⟨X, X0, XN, hX⟩ := h
  have bb : ∀ w, ptS S s nc nr w → ∀ c, c < nc → -1000 ≤ w c ∧ w c ≤ 1000 := fun w hw c hc => by
    have := hw.1 c hc
    have z := (hC.2.2.2.2.2.2.1 c hc).2.2.2.1
    unfold zok at z
    unfold loc hic at *
    omega
  have ex : ∀ j, ∃ q : (Nat → Int) × Int, j < 10000000 → 1 ≤ q.2 ∧ hkRG (rgu (fun c => rn nr (dnc S s nr c)) (fun c => rn nr (upc S s nr c)) nc) (rgv (fun c => rn nr (dnc S s nr c)) (fun c => rn nr (upc S s nr c)) nc) q.1 ∧ sI (fun c => cst S c * q.1 c) nc ≤ -1 ∧ (∀ c, c < nc → X (j + 1) c = X j c + q.2 * q.1 c) ∧ ∀ c, nc ≤ c → c < 10 → q.1 c = 0 := fun j => by
    by_cases hj : j < 10000000
    · obtain ⟨z, R, a⟩ := rg_ex h1 h2 (hX j hj).2
      exact ⟨(z, R), fun _ => a⟩
    · exact ⟨(fun _ => 0, 0), fun q => absurd q hj⟩
  obtain ⟨q, hq⟩ := Classical.axiomOfChoice ex
  have nd : ∀ c, c < 10 → rgu (fun c => rn nr (dnc S s nr c)) (fun c => rn nr (upc S s nr c)) nc c < 9 ∧ rgv (fun c => rn nr (dnc S s nr c)) (fun c => rn nr (upc S s nr c)) nc c < 9 ∧ rgu (fun c => rn nr (dnc S s nr c)) (fun c => rn nr (upc S s nr c)) nc c ≠ rgv (fun c => rn nr (dnc S s nr c)) (fun c => rn nr (upc S s nr c)) nc c := fun c _ => by
    have rl : ∀ v, rn nr v ≤ nr := fun v => by unfold rn; split <;> omega
    unfold rgu rgv
    by_cases g : c < nc ∧ rn nr (dnc S s nr c) ≠ rn nr (upc S s nr c)
    · rw [if_pos g, if_pos g]
      have a := rl (dnc S s nr c)
      have b := rl (upc S s nr c)
      exact ⟨Nat.lt_of_le_of_lt a (by omega), Nat.lt_of_le_of_lt b (by omega), g.2⟩
    · rw [if_neg g, if_neg g]; exact ⟨by omega, by omega, by omega⟩
  obtain ⟨Q, g, t, W, hs, hp, ht, hg, hW, hlt⟩ := hCE _ _ nd
  have fin := hk_fin (N := 10000000) (m := 10) (Q := Q) (t := t) (g := g) (cc := fun c => if c < nc then (cst S c : Rat) else 0) (v := fun j => (q j).1) (r := fun j => ((q j).2 : Rat)) hs hp ht (fun c hc => hg _ (hkRG_U (nd c hc) hc)) (fun j hj => hg _ (hq j hj).2.1) (fun j hj => by
    have a := (hq j hj).2.2.1
    have z0 := (hq j hj).2.2.2.2
    have e : hR 10 (fun c => (if c < nc then (cst S c : Rat) else 0) * hkqi (fun j => (q j).1) j c) = ((sI (fun c => cst S c * (q j).1 c) nc : Int) : Rat) := by
      have e0 : sI (fun c => cst S c * (q j).1 c) nc = sI (fun c => if c < nc then cst S c * (q j).1 c else 0) 10 := by
        rw [sI_ext (f := fun c => if c < nc then cst S c * (q j).1 c else 0) (n := nc) (m := 10) (fun v hv _ => if_neg (by omega)) h1]
        exact sI_congr (fun c hc => by rw [if_pos hc])
      rw [e0, ← hR_sI]
      refine hR_congr (fun c _ => ?_)
      show (if c < nc then (cst S c : Rat) else 0) * (((q j).1 c : Int) : Rat) = (((if c < nc then cst S c * (q j).1 c else 0 : Int)) : Rat)
      by_cases g2 : c < nc
      · rw [if_pos g2, if_pos g2, Rat.intCast_mul]
      · rw [if_neg g2, if_neg g2]
        have : (((0 : Int)) : Rat) = 0 := rfl
        rw [this]
        grind
    rw [e]
    exact Rat.intCast_le_intCast.mpr a) (fun j hj => Rat.intCast_le_intCast.mpr (hq j hj).1)
  have sm : ∀ c, c < 10 → ∃ d : Int, -2000 ≤ d ∧ d ≤ 2000 ∧ hR 10000000 (fun j => ((q j).2 : Rat) * hkqi (fun j => (q j).1) j c) = (d : Rat) := fun c hc => by
    refine ⟨sI (fun j => (q j).2 * (q j).1 c) 10000000, ?_⟩
    have e1 : hR 10000000 (fun j => ((q j).2 : Rat) * hkqi (fun j => (q j).1) j c) = ((sI (fun j => (q j).2 * (q j).1 c) 10000000 : Int) : Rat) := by
      rw [← hR_sI]
      exact hR_congr (fun j _ => by
        show ((q j).2 : Rat) * (((q j).1 c : Int) : Rat) = (((q j).2 * (q j).1 c : Int) : Rat)
        rw [Rat.intCast_mul])
    by_cases g2 : c < nc
    · have tl : ∀ n, n ≤ 10000000 → sI (fun j => (q j).2 * (q j).1 c) n = X n c - X 0 c := fun n => by
        induction n with
        | zero => intro _; show (0 : Int) = _; omega
        | succ n ih =>
          intro hn
          rw [sI_s, ih (by omega), (hq n (by omega)).2.2.2.1 c g2]
          omega
      have b1 := bb _ hy c g2
      have b2 := bb _ (hX 0 (by omega)).1 c g2
      rw [← XN] at b1
      have t2 := tl 10000000 (Nat.le_refl _)
      exact ⟨by omega, by omega, e1⟩
    · have t2 : sI (fun j => (q j).2 * (q j).1 c) 10000000 = 0 := by
        rw [sI_congr (h := fun _ => 0) (fun j hj => by rw [(hq j hj).2.2.2.2 c (by omega) hc]; exact Int.mul_zero _), sI_0]
      exact ⟨by omega, by omega, e1⟩
  have wW := hW (fun c => hR 10000000 (fun j => ((q j).2 : Rat) * hkqi (fun j => (q j).1) j c)) (fun c hc => by
    obtain ⟨d, d1, d2, d3⟩ := sm c hc
    show -2000 ≤ hR 10000000 (fun j => ((q j).2 : Rat) * hkqi (fun j => (q j).1) j c) ∧ hR 10000000 (fun j => ((q j).2 : Rat) * hkqi (fun j => (q j).1) j c) ≤ 2000
    rw [d3]
    exact ⟨Rat.intCast_le_intCast.mpr d1, Rat.intCast_le_intCast.mpr d2⟩)
  have g0 : 0 ≤ g := by
    have a := hg _ (hkRG_U (nd 0 (by omega)) (by omega))
    have b := hkQ_pos hs hp (fun c => ((hkU 0 c : Int) : Rat))
    grind
  have p0 := rpow_nn (a := g + t) (by grind) 10
  have m := Rat.mul_nonneg p0 (b := W - hkQ 10 Q (fun c => hR 10000000 (fun j => ((q j).2 : Rat) * hkqi (fun j => (q j).1) j c))) (by grind)
  generalize hkQ 10 Q (fun c => hR 10000000 (fun j => ((q j).2 : Rat) * hkqi (fun j => (q j).1) j c)) = F at *
  generalize (g + t) ^ 10 = E at *
  generalize t * hkD 10 Q = D at *
  generalize hN : (((10000000 : Nat) : Int) : Rat) * (((10000000 : Nat) : Int) : Rat) = NN at *
  have f2 : D * NN ≤ E * F := fin
  grind
theorem tb_of (h : hkCE) : TB := fun S T nc nr s Q hC hfl hT hl q => x7_improve hC hfl hT hl.1 (fun U fU xU d => by
  rcases d with d | d
  · exact q U fU xU d
  · exact (chN_no h hC xU d).elim)
