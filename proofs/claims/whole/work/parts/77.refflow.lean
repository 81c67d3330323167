/-! the reference's flowReason and findSigns -/
theorem up_endG {n i : Nat} (hn : n < 2 ^ 31) (hi : i ≤ n) (h : nI n ≤ nI i) : i = n := by
  rw [nI_leI (by omega) (by omega)] at h
  omega
theorem up_onG {n i : Nat} (hn : n < 2 ^ 31) (hi : i ≤ n) (h : ¬ nI n ≤ nI i) : i < n := by
  rcases Nat.lt_or_ge i n with q | q
  · exact q
  · exact absurd (nI_le q (by omega)) h
theorem bit_at : ∀ s, s < 256 → ∀ r, r < 8 → ((((nI s >>> (nI r &&& 31)) &&& (1 : Int32)) = (1 : Int32)) ↔ s.testBit r = true) ∧ ((((nI s >>> (nI r &&& 31)) &&& (1 : Int32)) = 0) ↔ s.testBit r = false) := by decide +kernel
theorem two_pow : ∀ r, r ≤ 8 → (1 : Int32) <<< (nI r &&& 31) = nI (2 ^ r) := by decide +kernel
theorem pow_le {r : Nat} (h : r ≤ 8) : 2 ^ r ≤ 256 := Nat.pow_le_pow_right (by omega) (by omega : r ≤ 8)
/-- the signs that a number stands for -/
def fset (s r : Nat) : Int := if s.testBit r = true then -1 else 1
theorem fset_sgn (s nr : Nat) : sgn nr (fset s) := fun r _ => by
  unfold fset
  split
  · exact Or.inr rfl
  · exact Or.inl rfl
def mkset (f : Nat → Bool) : Nat → Nat
  | 0 => 0
  | n + 1 => if f n = true then 2 ^ n + mkset f n else mkset f n
theorem mkset_lt (f : Nat → Bool) (n : Nat) : mkset f n < 2 ^ n := by
  induction n with
  | zero => exact Nat.one_pos
  | succ n ih =>
    unfold mkset
    rw [Nat.pow_succ]
    split <;> omega
theorem mkset_bit (f : Nat → Bool) (n : Nat) : ∀ r, r < n → (mkset f n).testBit r = f r := by
  induction n with
  | zero => intro r h; omega
  | succ n ih =>
    intro r hr
    unfold mkset
    by_cases g : f n = true
    · rw [if_pos g]
      by_cases e : r = n
      · rw [e, Nat.testBit_two_pow_add_eq, Nat.testBit_lt_two_pow (mkset_lt f n), g]; rfl
      · rw [Nat.testBit_two_pow_add_gt (by omega)]; exact ih r (by omega)
    · rw [if_neg g]
      by_cases e : r = n
      · rw [e, Nat.testBit_lt_two_pow (mkset_lt f n)]
        cases h : f n
        · rfl
        · exact absurd h g
      · exact ih r (by omega)
theorem sgn_set {nr : Nat} {f : Nat → Int} (h : sgn nr f) : ∃ s, s < 2 ^ nr ∧ ∀ r, r < nr → fset s r = f r := by
  refine ⟨mkset (fun r => decide (f r = -1)) nr, mkset_lt _ _, fun r hr => ?_⟩
  unfold fset
  rw [mkset_bit _ _ r hr]
  rcases h r hr with e | e
  · rw [e]; rfl
  · rw [e]; rfl
theorem sD_congr {A : Nat → Nat → Int} {nr c : Nat} {f g : Nat → Int} (h : ∀ r, r < nr → f r = g r) : sD A nr c f ↔ sD A nr c g := by
  unfold sD
  rw [sI_congr (fun r hr => by rw [h r hr])]
theorem sDs_congr {A : Nat → Nat → Int} {nr c : Nat} {f g : Nat → Int} (h : ∀ r, r < nr → f r = g r) : sDs A nr c f ↔ sDs A nr c g := ⟨fun q d hd => (sD_congr h).mp (q d hd), fun q d hd => (sD_congr h).mpr (q d hd)⟩
def aR (S : ZS) (r c : Nat) : Int := (S.1 67 (10 * r + c)).toInt
theorem aR_0 {S : ZS} {r c : Nat} : S.1 67 (10 * r + c) = 0 ↔ aR S r c = 0 := by
  unfold aR
  rw [i_eq]
  have : (0 : Int32).toInt = 0 := by decide
  rw [this]
theorem sI_le {g : Nat → Int} {n : Nat} {b : Int} (h : ∀ r, r < n → -b ≤ g r ∧ g r ≤ b) : -(n * b) ≤ sI g n ∧ sI g n ≤ n * b := by
  induction n with
  | zero => simp [sI]
  | succ n ih =>
    have h1 := ih (fun r hr => h r (by omega))
    have h2 := h n (by omega)
    rw [sI_s]
    have e : ((n + 1 : Nat) : Int) * b = n * b + b := by rw [Int.natCast_add, Int.add_mul]; simp
    rw [e]
    omega
theorem zl_up4 {α β γ τ : Type} {b : α × β × γ × Int32 × τ → (α × β × γ × Int32 × τ → Prop) → Prop} (n : Nat) (J : Nat → α → β → γ → τ → Prop) (hn : n < 2 ^ 31) (hs : ∀ (i : Nat) (x : α) (y : β) (z : γ) (t : τ) (k : α × β × γ × Int32 × τ → Prop), i ≤ n → J i x y z t → (i < n → ∀ x' y' z' t', J (i + 1) x' y' z' t' → k (x', y', z', nI (i + 1), t')) → b (x, y, z, nI i, t) k) (x0 : α) (y0 : β) (z0 : γ) (t0 : τ) (h0 : J 0 x0 y0 z0 t0) : zl b (x0, y0, z0, nI 0, t0) := by
  refine zl_of (fun y => ∃ i, i ≤ n ∧ y.2.2.2.1 = nI i ∧ J i y.1 y.2.1 y.2.2.1 y.2.2.2.2) (fun y => n - y.2.2.2.1.toNatClampNeg) (fun y k hy hk => ?_) _ ⟨0, Nat.zero_le _, rfl, h0⟩
  obtain ⟨y1, y2, y3, y4, y5⟩ := y
  obtain ⟨i, hi, e, hJ⟩ := hy
  dsimp only at e hJ
  subst e
  refine hs i y1 y2 y3 y5 k hi hJ (fun hlt x' y' z' t' ht' => hk _ ⟨i + 1, hlt, rfl, ht'⟩ ?_)
  show n - (nI (i + 1)).toNatClampNeg < n - (nI i).toNatClampNeg
  rw [nI_clamp (by omega), nI_clamp (by omega)]
  omega
/-- counting down -/
theorem zl_dn {τ : Type} {b : Int32 × τ → (Int32 × τ → Prop) → Prop} (n : Nat) (J : Nat → τ → Prop) (hn : n < 2 ^ 31) (hs : ∀ (i : Nat) (t : τ) (k : Int32 × τ → Prop), i ≤ n → J i t → (∀ j, i = j + 1 → ∀ t', J j t' → k (nI j, t')) → b (nI i, t) k) (t0 : τ) (h0 : J n t0) : zl b (nI n, t0) := by
  refine zl_of (fun x => ∃ i, i ≤ n ∧ x.1 = nI i ∧ J i x.2) (fun x => x.1.toNatClampNeg) (fun x k hx hk => ?_) _ ⟨n, Nat.le_refl _, rfl, h0⟩
  obtain ⟨x1, x2⟩ := x
  obtain ⟨i, hi, e, hJ⟩ := hx
  dsimp only at e hJ
  subst e
  refine hs i x2 k hi hJ (fun j ej t' ht' => hk _ ⟨j, by omega, rfl, ht'⟩ ?_)
  show (nI j).toNatClampNeg < (nI i).toNatClampNeg
  rw [nI_clamp (by omega), nI_clamp (by omega)]
  omega
theorem nI_add_m1 (n : Nat) : nI (n + 1) + (-1 : Int32) = nI n := by
  rw [← Int32.sub_eq_add_neg]
  exact nI_pred n
/-- counting down to -1: the number is one less than i -/
theorem zl_dm {τ : Type} {b : Int32 × τ → (Int32 × τ → Prop) → Prop} (n : Nat) (J : Nat → τ → Prop) (hn : n < 2 ^ 31) (hs : ∀ (i : Nat) (t : τ) (k : Int32 × τ → Prop), i ≤ n → J i t → (∀ j, i = j + 1 → ∀ t', J j t' → k (nI j - 1, t')) → b (nI i - 1, t) k) (t0 : τ) (h0 : J n t0) : zl b (nI n - 1, t0) := by
  refine zl_of (fun x => ∃ i, i ≤ n ∧ x.1 = nI i - 1 ∧ J i x.2) (fun x => (x.1 + 1).toNatClampNeg) (fun x k hx hk => ?_) _ ⟨n, Nat.le_refl _, rfl, h0⟩
  obtain ⟨x1, x2⟩ := x
  obtain ⟨i, hi, e, hJ⟩ := hx
  dsimp only at e hJ
  subst e
  refine hs i x2 k hi hJ (fun j ej t' ht' => hk _ ⟨j, by omega, rfl, ht'⟩ ?_)
  show (nI j - 1 + 1).toNatClampNeg < (nI i - 1 + 1).toNatClampNeg
  rw [Int32.sub_add_cancel, Int32.sub_add_cancel, nI_clamp (by omega), nI_clamp (by omega)]
  omega
theorem lt_two {n : Nat} (h : n ≤ 10) : nI n < (2 : Int32) ↔ n < 2 := by
  show nI n < nI 2 ↔ n < 2
  exact nI_ltI (by omega) (by omega)
theorem x7_signsDo {s m nc nr : Nat} {S : ZS} {Q : Int32 → ZS → Prop} (h6 : S.1 61 2 = nI nr) (h1 : nc ≤ 10) (h2 : nr ≤ 8) (hm : m ≤ nc) (hs : s < 2 ^ nr) (hb : ∀ r c, r < nr → c < nc → -100 ≤ aR S r c ∧ aR S r c ≤ 100) (q1 : sDs (aR S) nr m (fset s) → Q 1 S) (q0 : ¬ sDs (aR S) nr m (fset s) → Q 0 S) : X7_signsDo (nI s) (nI m) S Q := by
  have hs8 : s < 256 := by have := pow_le h2; omega
  have c1 : (1 : Int32).toInt = 1 := by decide
  have cm : (-1 : Int32).toInt = -1 := by decide
  have c0 : (0 : Int32).toInt = 0 := by decide
  unfold X7_signsDo
  refine zl_up2 m (fun i x T => T = S ∧ zbit x ∧ (x = 1 ↔ sDs (aR S) nr i (fset s))) (by omega) (fun i x T k hi hJ hk => ?_) 1 S ⟨rfl, Or.inr rfl, ⟨fun _ d hd => by omega, fun _ => rfl⟩⟩
  obtain ⟨rfl, hz, hx⟩ := hJ
  show X7_signsDo_B5 (nI s) (nI m) x (nI i) T Q k
  unfold X7_signsDo_B5 X7_signsDo_b112
  refine ⟨fun z => ⟨hz, ?_⟩, fun z => ?_⟩
  · have := up_end (by omega) hi z
    subst this
    rcases hz with e | e
    · rw [e]; exact q0 (fun w => by have := hx.mpr w; rw [e] at this; exact absurd this (by decide))
    · rw [e]; exact q1 (hx.mp e)
  · have hlt := up_on (by omega) hi z
    refine zl_up3 nr (fun r u v U => U = T ∧ u.toInt = sI (fun r => aR T r i * fset s r) r ∧ v = nI (tms (aR T) r i)) (by omega) (fun r u v U k2 hr hJ hk2 => ?_) 0 0 T ⟨rfl, c0, rfl⟩
    obtain ⟨rfl, hu, rfl⟩ := hJ
    show X7_signsDo_B20 (nI s) (nI m) x (nI i) u _ (nI r) U Q k k2
    unfold X7_signsDo_B20
    rw [h6]
    refine ⟨fun z => ?_, fun z => ?_⟩
    · have := up_end (by omega) hr z
      subst this
      unfold X7_signsDo_b85 X7_signsDo_b104 X7_signsDo_b100 X7_signsDo_b105
      have ht := cnt_le (fun q => decide (aR U q i ≠ 0)) r
      rw [lt_two (by unfold tms; omega)]
      have go : ∀ v w : Int32, zbit v → (v = 1 ↔ sDs (aR U) r (i + 1) (fset s)) → w = nI i + 1 → k (v, w, U) := by
        intro v w hv hv2 ew
        rw [nI_1] at ew
        subst ew
        exact hk hlt _ _ ⟨rfl, hv, hv2⟩
      refine ⟨fun g w ew => go _ w (Or.inl rfl) ⟨fun e => absurd e (by decide), fun e => ?_⟩ ew, fun g => ⟨fun g2 w ew => go _ w (Or.inr rfl) ⟨fun _ => ?_, fun _ => rfl⟩ ew, fun g2 => ⟨fun g3 w ew => go _ w (Or.inr rfl) ⟨fun _ => ?_, fun _ => rfl⟩ ew, fun g3 w ew => go _ w (Or.inl rfl) ⟨fun e => absurd e (by decide), fun e => ?_⟩ ew⟩⟩⟩
      · have := hx.mpr (sDs_s.mp e).1
        rw [g] at this
        exact absurd this (by decide)
      · exact sDs_s.mpr ⟨hx.mp (hz.elim (fun w => absurd w g) id), Or.inl g2⟩
      · refine sDs_s.mpr ⟨hx.mp (hz.elim (fun w => absurd w g) id), Or.inr ?_⟩
        rw [← hu, g3]; exact c0
      · rcases (sDs_s.mp e).2 with w | w
        · exact absurd w g2
        · rw [← hu] at w
          exact absurd (i_eq.mpr (w.trans c0.symm)) g3
    · have hrl := up_on (by omega) hr z
      have hbr := hb r i hrl (by omega)
      have step : ∀ t : Int32, t.toInt = fset s r → X7_signsDo_b54 (nI s) (nI m) x (nI i) (nI (tms (aR U) r i)) (nI r) t (U.1 67 (10 * r + i)) u U Q k k2 := by
        intro t ht
        have ht2 : fset s r = 1 ∨ fset s r = -1 := fset_sgn s 8 r (by omega)
        have hp : (U.1 67 (10 * r + i) * t).toInt = aR U r i * fset s r := by
          have e0 : (U.1 67 (10 * r + i)).toInt = aR U r i := rfl
          rw [i_mul (by rw [e0, ht]; rcases ht2 with e | e <;> rw [e] <;> omega) (by rw [e0, ht]; rcases ht2 with e | e <;> rw [e] <;> omega), ht]
          rfl
        have hbd := sI_le (g := fun r => aR U r i * fset s r) (n := r) (b := 100) (fun q hq => by
          have h := hb q i (by omega) (by omega)
          have ht3 : fset s q = 1 ∨ fset s q = -1 := fset_sgn s 8 q (by omega)
          rcases ht3 with e | e <;> rw [e] <;> omega)
        have hp2 : -100 ≤ aR U r i * fset s r ∧ aR U r i * fset s r ≤ 100 := by rcases ht2 with e | e <;> rw [e] <;> omega
        unfold X7_signsDo_b54 X7_signsDo_b76
        intro v ev
        have ev2 : v.toInt = sI (fun r => aR U r i * fset s r) (r + 1) := by
          rw [ev, i_add (by rw [hu, hp]; omega) (by rw [hu, hp]; omega), hu, hp]
          rfl
        refine x7_coef (by omega) (by omega) ⟨fun g w ew y ey => ?_, fun g w ew y ey => ?_⟩
        · rw [nI_1] at ey
          subst ey ew
          rw [aR_0] at g
          exact hk2 hrl _ _ _ ⟨rfl, ev2, by unfold tms; rw [cnt_s, if_neg (by rw [decide_eq_true_eq]; exact fun w => w g)]; exact nI_add _ 0⟩
        · rw [nI_1] at ey
          subst ey ew
          rw [aR_0] at g
          exact hk2 hrl _ _ _ ⟨rfl, ev2, by unfold tms; rw [cnt_s, if_pos (decide_eq_true g)]; exact nI_add _ 1⟩
      have hbit := (bit_at s hs8 r (by omega)).1
      refine x7_coef (by omega) (by omega) ?_
      rw [hbit]
      refine ⟨fun g => step _ ?_, fun g => step _ ?_⟩
      · unfold fset; rw [if_pos g]; exact cm
      · unfold fset; rw [if_neg g]; exact c1
theorem x7_anySigns {m nc nr : Nat} {S : ZS} {Q : Int32 → ZS → Prop} (h6 : S.1 61 2 = nI nr) (h1 : nc ≤ 10) (h2 : nr ≤ 8) (hm : m ≤ nc) (hb : ∀ r c, r < nr → c < nc → -100 ≤ aR S r c ∧ aR S r c ≤ 100) (q1 : sEx (aR S) nr m → Q 1 S) (q0 : ¬ sEx (aR S) nr m → Q 0 S) : X7_anySigns (nI m) S Q := by
  have hp := pow_le h2
  unfold X7_anySigns
  refine zl_up2 (2 ^ nr) (fun i x T => T = S ∧ zbit x ∧ (x = 0 → ∀ s, s < i → ¬ sDs (aR S) nr m (fset s)) ∧ (x = 1 → sEx (aR S) nr m)) (by omega) (fun i x T k hi hJ hk => ?_) 0 S ⟨rfl, Or.inl rfl, fun _ s hs => by omega, fun e => absurd e (by decide)⟩
  obtain ⟨rfl, hz, hx0, hx1⟩ := hJ
  show X7_anySigns_B4 (nI m) x (nI i) T Q k
  unfold X7_anySigns_B4 X7_anySigns_b31
  rw [h6, two_pow nr h2]
  refine ⟨fun z => ⟨hz, ?_⟩, fun z => ⟨fun g => ?_, fun g => ⟨hz, ?_⟩⟩⟩
  · have e := up_endG (by omega) hi z
    rcases hz with g | g
    · rw [g]
      refine q0 (fun ⟨f, f1, f2⟩ => ?_)
      obtain ⟨s, hs, hf⟩ := sgn_set f1
      exact hx0 g s (by omega) ((sDs_congr hf).mpr f2)
    · rw [g]; exact q1 (hx1 g)
  · have hlt := up_onG (by omega) hi z
    refine x7_signsDo h6 h1 h2 hm hlt hb (fun w y ey => ?_) (fun w y ey => ?_)
    · rw [nI_1] at ey
      subst ey
      exact hk hlt _ _ ⟨rfl, Or.inr rfl, fun e => absurd e (by decide), fun _ => ⟨fset i, fset_sgn i nr, w⟩⟩
    · rw [nI_1] at ey
      subst ey
      refine hk hlt _ _ ⟨rfl, Or.inl rfl, fun _ s hs => ?_, fun e => absurd e (by decide)⟩
      by_cases e : s = i
      · rw [e]; exact w
      · exact hx0 g s (by omega)
  · have e := hz.elim (fun w => absurd w g) id
    rw [e]
    exact q1 (hx1 e)
theorem x7_isPlain {c nc nr : Nat} {S : ZS} {Q : Int32 → ZS → Prop} (h6 : S.1 61 2 = nI nr) (h1 : nc ≤ 10) (h2 : nr ≤ 8) (hc : c < nc) (q1 : pln (aR S) nr c → Q 1 S) (q0 : ¬ pln (aR S) nr c → Q 0 S) : X7_isPlain (nI c) S Q := by
  have b1 : (1 : Int64).toInt = 1 := by decide
  have bm : (-1 : Int64).toInt = -1 := by decide
  unfold X7_isPlain
  refine zl_up3 nr (fun i x y T => T = S ∧ x = nI (tms (aR S) i c) ∧ zbit y ∧ (y = 1 ↔ ∀ r, r < i → -1 ≤ aR S r c ∧ aR S r c ≤ 1)) (by omega) (fun i x y T k hi hJ hk => ?_) 0 1 S ⟨rfl, rfl, Or.inr rfl, ⟨fun _ r hr => by omega, fun _ => rfl⟩⟩
  obtain ⟨rfl, rfl, hz, hy⟩ := hJ
  show X7_isPlain_B7 (nI c) _ y (nI i) T Q k
  unfold X7_isPlain_B7
  rw [h6]
  refine ⟨fun z => ?_, fun z => ?_⟩
  · have := up_end (by omega) hi z
    subst this
    unfold X7_isPlain_b67 X7_isPlain_b80 X7_isPlain_b81
    have ht := cnt_le (fun q => decide (aR T q c ≠ 0)) i
    rw [two_lt (by unfold tms; omega)]
    refine ⟨fun g => ⟨Or.inl rfl, q0 (fun w => ?_)⟩, fun g => ⟨fun g2 => ⟨Or.inl rfl, q0 (fun w => by have := w.2; omega)⟩, fun g2 => ⟨Or.inr rfl, q1 ⟨hy.mp (hz.elim (fun w => absurd w g) id), by omega⟩⟩⟩⟩
    have := hy.mpr w.1
    rw [g] at this
    exact absurd this (by decide)
  · have hlt := up_on (by omega) hi z
    have fin : ∀ x' y' w : Int32, x' = nI (tms (aR T) (i + 1) c) → zbit y' → (y' = 1 ↔ ∀ r, r < i + 1 → -1 ≤ aR T r c ∧ aR T r c ≤ 1) → w = nI i + 1 → k (x', y', w, T) := by
      intro x' y' w e1 e2 e3 ew
      rw [nI_1] at ew
      subst ew
      exact hk hlt _ _ _ ⟨rfl, e1, e2, e3⟩
    have mid : ∀ t : Int32, nI (tms (aR T) i c) + t = nI (tms (aR T) (i + 1) c) → X7_isPlain_b36 (nI c) y (nI i) (T.1 67 (10 * i + c)) t (nI (tms (aR T) i c)) T Q k := by
      intro t ht
      unfold X7_isPlain_b36 X7_isPlain_b59 X7_isPlain_b60
      intro x' ex
      rw [ht] at ex
      refine ⟨fun g w ew => fin _ _ w ex (Or.inl rfl) ⟨fun e => absurd e (by decide), fun e => ?_⟩ ew, fun g => m_within ?_⟩
      · have := hy.mpr (fun r hr => e r (by omega))
        rw [g] at this
        exact absurd this (by decide)
      · rw [zb_0, b1, bm, l_i]
        refine ⟨fun g2 w ew => fin _ _ w ex (Or.inl rfl) ⟨fun e => absurd e (by decide), fun e => absurd (e i (by omega)) g2⟩ ew, fun g2 w ew => fin _ _ w ex (Or.inr rfl) ⟨fun _ r hr => ?_, fun _ => rfl⟩ ew⟩
        by_cases e : r = i
        · rw [e]; exact Classical.not_not.mp g2
        · exact hy.mp (hz.elim (fun w => absurd w g) id) r (by omega)
    refine x7_coef (by omega) (by omega) ⟨fun g => mid _ ?_, fun g => mid _ ?_⟩
    · rw [aR_0] at g
      unfold tms; rw [cnt_s, if_neg (by rw [decide_eq_true_eq]; exact fun w => w g)]; exact nI_add _ 0
    · rw [aR_0] at g
      unfold tms; rw [cnt_s, if_pos (decide_eq_true g)]; exact nI_add _ 1
theorem x7_flowReason {nc nr : Nat} {S : ZS} {Q : Int32 → ZS → Prop} (h1 : nc ≤ 10) (h2 : nr ≤ 8) (h5 : S.1 61 1 = nI nc) (h6 : S.1 61 2 = nI nr) (hb : ∀ r c, r < nr → c < nc → -100 ≤ aR S r c ∧ aR S r c ≤ 100) (q : ∀ x, fR (aR S) nr nc x → Q x S) : X7_flowReason S Q := by
  unfold X7_flowReason
  refine zl_up nc (fun i T => T = S ∧ ∀ d, d < i → pln (aR S) nr d) (by omega) (fun i T k hi hJ hk => ?_) S ⟨rfl, fun r h => absurd h (Nat.not_lt_zero _)⟩
  obtain ⟨rfl, hj⟩ := hJ
  show X7_flowReason_B2 (nI i) T Q k
  unfold X7_flowReason_B2 X7_flowReason_b26 X7_flowReason_b18
  rw [h5]
  refine ⟨fun z => ?_, fun z => ?_⟩
  · have := up_end (by omega) hi z
    subst this
    intro x ex
    subst ex
    refine zl_dn i (fun j U => U = T ∧ ∀ d, j < d → d ≤ i → ¬ sEx (aR T) nr d) (by omega) (fun j U k2 hjj hJ hk2 => ?_) T ⟨rfl, fun d a b => by omega⟩
    obtain ⟨rfl, hno⟩ := hJ
    have fin : sEx (aR U) nr j → X7_flowReason_b49 (nI j) U Q := by
      intro he
      unfold X7_flowReason_b49 X7_flowReason_b62
      rw [h5, nI_eq (by omega) (by omega)]
      refine ⟨fun g => q _ (Or.inr ⟨hj, Or.inr ⟨by rw [← g]; exact he, rfl⟩⟩), fun g => q _ (Or.inr ⟨hj, Or.inl ⟨j, by omega, he, hno (j + 1) (by omega) (by omega), rfl⟩⟩)⟩
    show X7_flowReason_B31 (nI j) U Q k2
    unfold X7_flowReason_B31
    refine ⟨fun g => fin ?_, fun g => ?_⟩
    · have : j = 0 := by
        have h0 : nI j ≤ nI 0 := g
        rw [nI_leI (by omega) (by omega)] at h0
        omega
      rw [this]
      exact ⟨fun _ => 1, fun _ _ => Or.inl rfl, fun d hd => by omega⟩
    · refine x7_anySigns h6 h1 h2 hjj hb (fun w => ⟨fun e => absurd e (by decide), fun _ => fin w⟩) (fun w => ⟨fun _ y ey => ?_, fun e => absurd rfl e⟩)
      have j0 : j ≠ 0 := fun e => g (by rw [e]; decide)
      obtain ⟨j', rfl⟩ : ∃ j', j = j' + 1 := ⟨j - 1, by omega⟩
      rw [nI_add_m1] at ey
      subst ey
      refine hk2 j' rfl _ ⟨rfl, fun d a b => ?_⟩
      by_cases e : d = j' + 1
      · rw [e]; exact w
      · exact hno d (by omega) b
  · have hlt := up_on (by omega) hi z
    refine x7_isPlain h6 h1 h2 hlt (fun g => ⟨fun e => absurd e (by decide), fun _ w ew => ?_⟩) (fun g => ⟨fun _ => q _ (Or.inl ⟨i, hlt, g, hj, rfl⟩), fun e => absurd rfl e⟩)
    rw [nI_1] at ew
    subst ew
    exact hk hlt _ ⟨rfl, fun d hd => by
      by_cases e : d = i
      · rw [e]; exact g
      · exact hj d (by omega)⟩
