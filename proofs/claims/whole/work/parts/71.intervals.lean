/-! intervals() -/
theorem zl_up3 {α β τ : Type} {b : α × β × Int32 × τ → (α × β × Int32 × τ → Prop) → Prop} (n : Nat) (J : Nat → α → β → τ → Prop) (hn : n < 2 ^ 31) (hs : ∀ (i : Nat) (x : α) (y : β) (t : τ) (k : α × β × Int32 × τ → Prop), i ≤ n → J i x y t → (i < n → ∀ x' y' t', J (i + 1) x' y' t' → k (x', y', nI (i + 1), t')) → b (x, y, nI i, t) k) (x0 : α) (y0 : β) (t0 : τ) (h0 : J 0 x0 y0 t0) : zl b (x0, y0, nI 0, t0) := by
  refine zl_of (fun y => ∃ i, i ≤ n ∧ y.2.2.1 = nI i ∧ J i y.1 y.2.1 y.2.2.2) (fun y => n - y.2.2.1.toNatClampNeg) (fun y k hy hk => ?_) _ ⟨0, Nat.zero_le _, rfl, h0⟩
  obtain ⟨y1, y2, y3, y4⟩ := y
  obtain ⟨i, hi, e, hJ⟩ := hy
  dsimp only at e hJ
  subst e
  refine hs i y1 y2 y4 k hi hJ (fun hlt x' y' t' ht' => hk _ ⟨i + 1, hlt, rfl, ht'⟩ ?_)
  show n - (nI (i + 1)).toNatClampNeg < n - (nI i).toNatClampNeg
  rw [nI_clamp (by omega), nI_clamp (by omega)]
  omega
/-- the first place for which p is not so, or -1 -/
def zfst (p : Nat → Prop) (n : Nat) (r : Int32) : Prop := (∃ c, c < n ∧ ¬ p c ∧ (∀ d, d < c → p d) ∧ r = nI c) ∨ ((∀ c, c < n → p c) ∧ r = -1)
theorem zfst_uniq {p : Nat → Prop} {n : Nat} {r s : Int32} (h1 : zfst p n r) (h2 : zfst p n s) : r = s := by
  rcases h1 with ⟨c, a1, a2, a3, a4⟩ | ⟨a1, a2⟩ <;> rcases h2 with ⟨d, b1, b2, b3, b4⟩ | ⟨b1, b2⟩
  · rcases Nat.lt_trichotomy c d with g | g | g
    · exact absurd (b3 c g) a2
    · rw [a4, b4, g]
    · exact absurd (a3 d g) b2
  · exact absurd (b1 c a1) a2
  · exact absurd (a1 d b1) b2
  · rw [a2, b2]
def f01 (f : Nat → Int32) (n : Nat) : Prop := ∀ r, r < n → f r = 0 ∨ f r = 1
def bg (f : Nat → Int32) : Nat → Nat
  | 0 => 0
  | n + 1 => bg f n + (if (n = 0 ∨ f (n - 1) = 0) ∧ f n ≠ 0 then 1 else 0)
theorem bg_s (f : Nat → Int32) (n : Nat) : bg f (n + 1) = bg f n + (if (n = 0 ∨ f (n - 1) = 0) ∧ f n ≠ 0 then 1 else 0) := rfl
theorem bg_le (f : Nat → Int32) (n : Nat) : bg f n ≤ n := by
  induction n with
  | zero => exact Nat.le_refl _
  | succ n ih =>
    unfold bg
    split <;> omega
def isIv (f : Nat → Int32) (n : Nat) : Prop := f01 f n ∧ bg f n ≤ 1
theorem one_lt {n : Nat} (h : n ≤ 10) : (1 : Int32) < nI n ↔ 1 < n := by
  show nI 1 < nI n ↔ 1 < n
  exact nI_ltI (by omega) (by omega)
theorem x4_isInterval {c nc nr : Nat} {S : ZS} {Q : Int32 → ZS → Prop} (h4 : S.1 1 1 = nI nr) (h1 : nc ≤ 10) (h2 : nr ≤ 8) (hc : c < nc) (q1 : isIv (fun r => S.1 (14 + r) c) nr → Q 1 S) (q0 : ¬ isIv (fun r => S.1 (14 + r) c) nr → Q 0 S) : X4_isInterval (nI c) S Q := by
  unfold X4_isInterval
  have a0 : (0 : Int32).toInt = 0 := by decide
  have a1 : (1 : Int32).toInt = 1 := by decide
  refine zl_up3 nr (fun i x y T => T = S ∧ f01 (fun r => S.1 (14 + r) c) i ∧ x = nI (bg (fun r => S.1 (14 + r) c) i) ∧ y = if i = 0 then 0 else S.1 (14 + (i - 1)) c) (by omega) (fun i x y T k hi hJ hk => ?_) 0 0 S ⟨rfl, fun r h => absurd h (Nat.not_lt_zero _), rfl, rfl⟩
  obtain ⟨rfl, hf, rfl, hy⟩ := hJ
  show X4_isInterval_B7 (nI c) _ y (nI i) T Q k
  unfold X4_isInterval_B7
  rw [h4]
  refine ⟨fun z => ?_, fun z => ?_⟩
  · have := up_end (by omega) hi z
    subst this
    unfold X4_isInterval_b64 X4_isInterval_b74
    have hb := bg_le (fun r => T.1 (14 + r) c) i
    rw [one_lt (by omega)]
    exact ⟨fun g => ⟨Or.inl rfl, q0 (fun q => by have := q.2; omega)⟩, fun g => ⟨Or.inr rfl, q1 ⟨hf, by omega⟩⟩⟩
  · have hlt := up_on (by omega) hi z
    refine ⟨vp_in_nI (by omega) (by omega), vp_in_nI (by omega) (by omega), fun v ev => ?_⟩
    rw [nI_clamp (by omega), nI_clamp (by omega)] at ev
    have step : (v = 0 ∨ v = 1) → X4_isInterval_b46 (nI c) (nI (bg (fun r => T.1 (14 + r) c) i)) y (nI i) v T Q k := by
      intro hv
      have hf' : f01 (fun r => T.1 (14 + r) c) (i + 1) := fun r hr => by
        by_cases g : r = i
        · subst g; rw [ev] at hv; exact hv
        · exact hf r (by omega)
      have hy' : v = if i + 1 = 0 then 0 else T.1 (14 + (i + 1 - 1)) c := by
        rw [if_neg (by omega), Nat.add_sub_cancel]; exact ev
      have hyv : y = 0 ∨ y = 1 := by
        rw [hy]
        by_cases g : i = 0
        · rw [if_pos g]; exact Or.inl rfl
        · rw [if_neg g]; exact hf (i - 1) (by omega)
      have hcond : ((i = 0 ∨ (fun r => T.1 (14 + r) c) (i - 1) = 0) ∧ (fun r => T.1 (14 + r) c) i ≠ 0) ↔ (y = 0 ∧ v ≠ 0) := by
        rw [ev, hy]
        by_cases g : i = 0
        · rw [if_pos g]
          exact ⟨fun q => ⟨rfl, q.2⟩, fun q => ⟨Or.inl g, q.2⟩⟩
        · rw [if_neg g]
          exact ⟨fun q => ⟨q.1.elim (fun w => absurd w g) id, q.2⟩, fun q => ⟨Or.inr q.1, q.2⟩⟩
      unfold X4_isInterval_b46 X4_isInterval_b55
      refine ⟨fun le w ew => ?_, fun le u eu w ew => ?_⟩
      · rw [nI_1] at ew
        subst ew
        refine hk hlt _ _ _ ⟨rfl, hf', ?_, hy'⟩
        have hn : ¬ (y = 0 ∧ v ≠ 0) := by
          rintro ⟨g1, g2⟩
          rcases hv with g | g
          · exact g2 g
          · rw [g1, g, i_le, a0, a1] at le
            omega
        rw [bg_s, if_neg (fun q => hn (hcond.mp q))]
        rfl
      · rw [nI_1] at ew eu
        subst ew
        refine hk hlt _ _ _ ⟨rfl, hf', ?_, hy'⟩
        have hn : y = 0 ∧ v ≠ 0 := by
          rcases hyv with g | g <;> rcases hv with g3 | g3
          · exact absurd (by rw [g, g3, i_le]; exact Int.le_refl _) le
          · exact ⟨g, by rw [g3]; decide⟩
          · exact absurd (by rw [g, g3, i_le, a0, a1]; omega) le
          · exact absurd (by rw [g, g3, i_le]; exact Int.le_refl _) le
        rw [bg_s, if_pos (hcond.mpr hn)]
        exact eu
    refine ⟨fun g => step (Or.inl g), fun g => ⟨fun g2 => step (Or.inr g2), fun g2 => ?_⟩⟩
    unfold X4_isInterval_b44
    refine ⟨Or.inl rfl, q0 (fun q => ?_)⟩
    have := q.1 i hlt
    rw [ev] at g g2
    exact this.elim g g2
/-- a coefficient of the reference -/
theorem x7_coef {r c : Nat} {S : ZS} {Q : Int32 → ZS → Prop} (hr : r < 8) (hc : c < 10) (h : Q (S.1 67 (10 * r + c)) S) : X7_coef (nI r) (nI c) S Q := by
  have ei : ((10 : Int32) * nI r) + nI c = nI (10 * r + c) := by
    rw [show (10 : Int32) = nI 10 from rfl, pk_mul, nI_add]
  unfold X7_coef
  rw [ei, nI_clamp (by omega)]
  exact ⟨vp_in_nI (by omega) (by omega), h⟩
theorem f01_s {f : Nat → Int32} {n : Nat} : f01 f (n + 1) ↔ f01 f n ∧ (f n = 0 ∨ f n = 1) := by
  refine ⟨fun h => ⟨fun r hr => h r (by omega), h n (by omega)⟩, fun h r hr => ?_⟩
  by_cases g : r = n
  · subst g; exact h.2
  · exact h.1 r (by omega)
theorem x7_isInterval {c nc nr : Nat} {S : ZS} {Q : Int32 → ZS → Prop} (h6 : S.1 61 2 = nI nr) (h1 : nc ≤ 10) (h2 : nr ≤ 8) (hc : c < nc) (q1 : isIv (fun r => S.1 67 (10 * r + c)) nr → Q 1 S) (q0 : ¬ isIv (fun r => S.1 67 (10 * r + c)) nr → Q 0 S) : X7_isInterval (nI c) S Q := by
  unfold X7_isInterval
  have a0 : (0 : Int32).toInt = 0 := by decide
  have a1 : (1 : Int32).toInt = 1 := by decide
  have b0 : (0 : Int64).toInt = 0 := by decide
  have b1 : (1 : Int64).toInt = 1 := by decide
  refine zl_up3 nr (fun i x y T => T = S ∧ zbit x ∧ (x = 1 ↔ f01 (fun r => S.1 67 (10 * r + c)) i) ∧ y = nI (bg (fun r => S.1 67 (10 * r + c)) i)) (by omega) (fun i x y T k hi hJ hk => ?_) 1 0 S ⟨rfl, Or.inr rfl, ⟨fun _ r h => absurd h (Nat.not_lt_zero _), fun _ => rfl⟩, rfl⟩
  obtain ⟨rfl, hz, hf, rfl⟩ := hJ
  show X7_isInterval_B7 (nI c) x _ (nI i) T Q k
  unfold X7_isInterval_B7
  rw [h6]
  have hb := bg_le (fun r => T.1 67 (10 * r + c)) i
  refine ⟨fun z => ?_, fun z => ?_⟩
  · have := up_end (by omega) hi z
    subst this
    unfold X7_isInterval_b91 X7_isInterval_b104 X7_isInterval_b105
    rw [one_lt (by omega)]
    refine ⟨fun g => ⟨Or.inl rfl, q0 (fun q => ?_)⟩, fun g => ⟨fun g2 => ⟨Or.inl rfl, q0 (fun q => by have := q.2; omega)⟩, fun g2 => ⟨Or.inr rfl, q1 ⟨hf.mp (hz.elim (fun w => absurd w g) id), by omega⟩⟩⟩⟩
    have := hf.mpr q.1
    rw [g] at this
    exact absurd this (by decide)
  · have hlt := up_on (by omega) hi z
    -- the last steps: how many begin
    have fin : ∀ (x' w : Int32), zbit x' → (x' = 1 ↔ f01 (fun r => T.1 67 (10 * r + c)) (i + 1)) → (w = 0 ↔ (i = 0 ∨ T.1 67 (10 * (i - 1) + c) = 0)) → X7_isInterval_b61 (nI c) (nI (bg (fun r => T.1 67 (10 * r + c)) i)) (nI i) w x' T Q k := by
      intro x' w hz' hf' hw
      unfold X7_isInterval_b61 X7_isInterval_b82 X7_isInterval_b83
      have go : ∀ t : Int32, (nI (bg (fun r => T.1 67 (10 * r + c)) i)) + t = nI (bg (fun r => T.1 67 (10 * r + c)) (i + 1)) → ∀ x3 : Int32, x3 = nI (bg (fun r => T.1 67 (10 * r + c)) i) + t → ∀ x4 : Int32, x4 = nI i + (1 : Int32) → k (x', x3, x4, T) := by
        intro t ht x3 e3 x4 e4
        rw [nI_1] at e4
        rw [ht] at e3
        subst e3 e4
        exact hk hlt _ _ _ ⟨rfl, hz', hf', rfl⟩
      refine ⟨fun g => x7_coef (by omega) (by omega) ⟨fun g2 => go 0 ?_, fun g2 => go 1 ?_⟩, fun g => go 0 ?_⟩
      · rw [bg_s, if_neg (fun q => q.2 g2)]; exact nI_add _ 0
      · rw [bg_s, if_pos ⟨hw.mp g, g2⟩]; exact nI_add _ 1
      · rw [bg_s, if_neg (fun q => g (hw.mpr q.1))]; exact nI_add _ 0
    have mid : ∀ w : Int32, (w = 0 ↔ (i = 0 ∨ T.1 67 (10 * (i - 1) + c) = 0)) → X7_isInterval_b34 (nI c) x (nI (bg (fun r => T.1 67 (10 * r + c)) i)) (nI i) w T Q k := by
      intro w hw
      have hno : ¬ f01 (fun r => T.1 67 (10 * r + c)) (i + 1) → ((0 : Int32) = 1 ↔ f01 (fun r => T.1 67 (10 * r + c)) (i + 1)) := fun q => ⟨fun a => absurd a (by decide), fun a => absurd a q⟩
      unfold X7_isInterval_b34 X7_isInterval_b60
      refine ⟨fun g => fin 0 w (Or.inl rfl) (hno (fun q => ?_)) hw, fun g => x7_coef (by omega) (by omega) (m_within ⟨fun g2 => fin 0 w (Or.inl rfl) (hno (fun q => ?_)) hw, fun g2 => fin 1 w (Or.inr rfl) ⟨fun _ => f01_s.mpr ⟨hf.mp (hz.elim (fun w => absurd w g) id), ?_⟩, fun _ => rfl⟩ hw⟩)⟩
      · have := hf.mpr (f01_s.mp q).1
        rw [g] at this
        exact absurd this (by decide)
      · rw [zb_0, b0, b1, l_i] at g2
        rcases (f01_s.mp q).2 with e | e
        · exact g2 (by rw [show T.1 67 (10 * i + c) = 0 from e, a0]; omega)
        · exact g2 (by rw [show T.1 67 (10 * i + c) = 1 from e, a1]; omega)
      · rw [zb_0, b0, b1, l_i] at g2
        show T.1 67 (10 * i + c) = 0 ∨ T.1 67 (10 * i + c) = 1
        rw [i_eq, i_eq, a0, a1]
        omega
    refine ⟨fun g => mid 0 ⟨fun _ => Or.inl ?_, fun _ => rfl⟩, fun g => ?_⟩
    · have : nI i = nI 0 := g
      exact nI_inj (by omega) (by omega) this
    · have hi0 : i ≠ 0 := fun e => g (by rw [e]; rfl)
      have ei : nI i - (1 : Int32) = nI (i - 1) := by
        obtain ⟨j, rfl⟩ : ∃ j, i = j + 1 := ⟨i - 1, by omega⟩
        rw [nI_pred, Nat.add_sub_cancel]
      rw [ei]
      exact x7_coef (by omega) (by omega) (mid _ ⟨fun q => Or.inr q, fun q => q.elim (fun e => absurd e hi0) id⟩)
theorem iv_congr {f g : Nat → Int32} {n : Nat} (h : ∀ r, r < n → f r = g r) : isIv f n → isIv g n := by
  have hb : ∀ m, m ≤ n → bg f m = bg g m := by
    intro m
    induction m with
    | zero => intro _; rfl
    | succ m ih =>
      intro hm
      rw [bg_s, bg_s, ih (by omega), h m (by omega)]
      by_cases e : m = 0
      · simp [e]
      · rw [h (m - 1) (by omega)]
  rintro ⟨a, b⟩
  exact ⟨fun r hr => by rw [← h r hr]; exact a r hr, by rw [← hb n (Nat.le_refl _)]; exact b⟩
theorem k_11 {y1 y2 y3 : Int32} {S : ZS} {N : ZS → Prop} (h : Inv S) (hN : ∀ T, Inv T → N T) : lawc_11 y1 y2 y3 S N := by
  have hI := h
  obtain ⟨nc, nr, hC, hSol⟩ := h
  obtain ⟨h1, h2, h3, h4, h5, h6, h7, h8, h9, h10, h11⟩ := hC
  have eq1 : ∀ c, c < nc → (isIv (fun r => S.1 (14 + r) c) nr ↔ isIv (fun r => S.1 67 (10 * r + c)) nr) := fun c hc => ⟨iv_congr (fun r hr => (h9 r c hr hc).symm), iv_congr (fun r hr => h9 r c hr hc)⟩
  unfold lawc_11 X6_intervals X4_firstColumnNoInterval
  refine zl_up nc (fun i T => T = S ∧ ∀ d, d < i → isIv (fun r => S.1 (14 + r) d) nr) (by omega) (fun i T k hi hJ hk => ?_) S ⟨rfl, fun d h => absurd h (Nat.not_lt_zero _)⟩
  obtain ⟨rfl, hd⟩ := hJ
  have go : ∀ r : Int32, zfst (fun c => isIv (fun r => T.1 (14 + r) c) nr) nc r → X7_intervals T (fun r_708 S_708 => (r = r_708 → N S_708) ∧ (¬ r = r_708 → False)) := by
    intro r hr
    unfold X7_intervals
    intro U eU
    have hp : zPer T U := by rw [eU]; exact (zPer.rf T).u61 (Or.inl rfl)
    have fin : ∀ s : Int32, zfst (fun c => isIv (fun r => T.1 (14 + r) c) nr) nc s → (r = s → N U) ∧ (¬ r = s → False) := fun s hs => ⟨fun _ => hN U (hI.per hp), fun g => absurd (zfst_uniq hr hs) g⟩
    have e67 : U.1 67 = T.1 67 := (hp.1 67 rfl).1
    refine zl_up nc (fun j V => V = U ∧ ∀ d, d < j → isIv (fun r => T.1 (14 + r) d) nr) (by omega) (fun j V k2 hj hJ hk2 => ?_) U ⟨rfl, fun d h => absurd h (Nat.not_lt_zero _)⟩
    obtain ⟨rfl, hd2⟩ := hJ
    show X7_intervals_B7 (nI j) V _ k2
    unfold X7_intervals_B7 X7_intervals_b31 X7_intervals_b23
    rw [show V.1 61 1 = nI nc from (hp.2 1 (by decide) (by decide)).trans h5]
    refine ⟨fun z => ?_, fun z => ?_⟩
    · have := up_end h1 hj z
      subst this
      exact fin _ (Or.inr ⟨hd2, rfl⟩)
    · have hlt := up_on h1 hj z
      refine x7_isInterval (nc := nc) (nr := nr) ((hp.2 2 (by decide) (by decide)).trans h6) h1 h2 hlt (fun q => ⟨fun g => absurd g (by decide), fun _ w ew => ?_⟩) (fun q => ⟨fun _ => fin _ (Or.inl ⟨j, hlt, fun g => q ?_, hd2, rfl⟩), fun g => absurd rfl g⟩)
      · rw [nI_1] at ew
        subst ew
        rw [e67] at q
        exact hk2 hlt _ ⟨rfl, fun d hdj => by
          by_cases g : d = j
          · subst g; exact (eq1 d hlt).mpr q
          · exact hd2 d (by omega)⟩
      · rw [e67]; exact (eq1 j hlt).mp g
  show X4_firstColumnNoInterval_B2 (nI i) T _ k
  unfold X4_firstColumnNoInterval_B2 X4_firstColumnNoInterval_b29 X4_firstColumnNoInterval_b21
  rw [h3]
  refine ⟨fun z => ?_, fun z => ?_⟩
  · have := up_end h1 hi z
    subst this
    exact go _ (Or.inr ⟨hd, rfl⟩)
  · have hlt := up_on h1 hi z
    refine x4_isInterval (nc := nc) (nr := nr) h4 h1 h2 hlt (fun q => ⟨fun g => absurd g (by decide), fun _ w ew => ?_⟩) (fun q => ⟨fun _ => go _ (Or.inl ⟨i, hlt, q, hd, rfl⟩), fun g => absurd rfl g⟩)
    rw [nI_1] at ew
    subst ew
    exact hk hlt _ ⟨rfl, fun d hdj => by
      by_cases g : d = i
      · subst g; exact q
      · exact hd d (by omega)⟩
