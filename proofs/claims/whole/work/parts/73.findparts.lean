/-! both sides' findParts -/
theorem nI_m1 {n : Nat} (h : n < 2 ^ 31) : nI n ≠ (-1 : Int32) := by
  intro e
  rw [i_eq, nI_toInt h] at e
  have : (-1 : Int32).toInt = -1 := by decide
  omega
theorem zP.congr {nr : Nat} {C D : (Nat → Nat) → Prop} {L : Nat → Nat} (h : zP nr C L) (e : ∀ f, C f ↔ D f) : zP nr D L := ⟨h.1, (e L).mp h.2.1, fun f hf r hr => h.2.2 f ((e f).mpr hf) r hr⟩
theorem cJ_congr {t u : Nat → Nat → Prop} {nr c : Nat} {f : Nat → Nat} (h : ∀ r d, r < nr → d < c → (t r d ↔ u r d)) : cJ t nr c f ↔ cJ u nr c f := ⟨fun g d hd r s hr hs a b => g d hd r s hr hs ((h r d hr hd).mpr a) ((h s d hs hd).mpr b), fun g d hd r s hr hs a b => g d hd r s hr hs ((h r d hr hd).mp a) ((h s d hs hd).mp b)⟩
theorem x4_joinColumn {c nr : Nat} {S : ZS} {Q : ZS → Prop} {L : Nat → Nat} (h4 : S.1 1 1 = nI nr) (h2 : nr ≤ 8) (hc : c < 10) (hL : ∀ r, r < nr → S.1 22 r = nI (L r)) (hP : zP nr (cJ (fun r d => S.1 (14 + r) d ≠ 0) nr c) L)
    (q : ∀ T M, zQ2 22 23 S T → (∀ r, r < nr → T.1 22 r = nI (M r)) → zP nr (cJ (fun r d => S.1 (14 + r) d ≠ 0) nr (c + 1)) M → Q T) : X4_joinColumn (nI c) S Q := by
  unfold X4_joinColumn
  refine x5_nextTerm (b := 0) h4 h2 hc (Nat.zero_le _) (fun x hx => ?_)
  rcases hx with ⟨a, _, ha, ta, tb, rfl⟩ | ⟨hno, rfl⟩
  · refine ⟨fun e => absurd e (nI_m1 (by omega)), fun _ w ew => ?_⟩
    rw [nI_1] at ew
    subst ew
    refine zl_from (a + 1) nr (fun i T => zQ2 22 23 S T ∧ ∃ M, (∀ r, r < nr → T.1 22 r = nI (M r)) ∧ zP nr (fun f => cJ (fun r d => S.1 (14 + r) d ≠ 0) nr c f ∧ ∀ s, a < s → s < i → S.1 (14 + s) c ≠ 0 → f a = f s) M) (by omega) (fun i T k hai hi hJ hk => ?_) S (by omega) ⟨zQ2.rf S, L, hL, hP.congr (fun f => ⟨fun h => ⟨h, fun s x y => by omega⟩, fun h => h.1⟩)⟩
    obtain ⟨hx, M, hM, hPM⟩ := hJ
    have e14 : ∀ r, r < 8 → T.1 (14 + r) = S.1 (14 + r) := fun r hr => hx.2 _ (by omega) (by omega)
    show X4_joinColumn_B20 (nI c) (nI a) (nI i) T Q k
    unfold X4_joinColumn_B20 X4_joinColumn_b58 X4_joinColumn_b52
    rw [hx.2 1 (by decide) (by decide), h4, nI_clamp (by omega), nI_clamp (by omega)]
    refine ⟨fun z => ?_, fun z => ?_⟩
    · have := up_end (by omega) hi z
      subst this
      refine q T M hx hM (hPM.congr (fun f => ⟨fun h d hd r s hr hs tr ts => ?_, fun h => ⟨fun d hd => h d (by omega), fun s hs1 hs2 ts => h c (by omega) a s (by omega) (by omega) ta ts⟩⟩))
      by_cases e : d = c
      · subst e
        have key : ∀ u, u < i → S.1 (14 + u) d ≠ 0 → f a = f u := fun u hu tu => by
          rcases Nat.lt_trichotomy u a with g | g | g
          · exact absurd tu (tb u (Nat.zero_le _) g)
          · rw [g]
          · exact h.2 u g hu tu
        rw [← key r hr tr, ← key s hs ts]
      · exact h.1 d (by omega) r s hr hs tr ts
    · have hlt := up_on (by omega) hi z
      rw [e14 i (by omega)]
      refine ⟨vp_in_nI (by omega) (by omega), vp_in_nI (by omega) (by omega), fun g w ew => ?_, fun g => ?_⟩
      · rw [nI_1] at ew
        subst ew
        refine hk hlt T ⟨hx, M, hM, hPM.congr (fun f => ⟨fun h => ⟨h.1, fun s hs1 hs2 ts => ?_⟩, fun h => ⟨h.1, fun s hs1 hs2 ts => h.2 s hs1 (by omega) ts⟩⟩)⟩
        by_cases e : s = i
        · subst e; exact absurd g ts
        · exact h.2 s hs1 (by omega) ts
      · refine x4_join (L := M) (by rw [hx.2 1 (by decide) (by decide)]; exact h4) h2 ha hlt hM hPM.1 (fun U hU hU1 _ w ew => ?_)
        rw [nI_1] at ew
        subst ew
        refine hk hlt U ⟨hx.tr hU, jn M a i, hU1, hPM.join ha hlt (fun f g2 hf => ⟨fun d hd r s hr hs tr ts => congrArg g2 (hf.1 d hd r s hr hs tr ts), fun s x y z => congrArg g2 (hf.2 s x y z)⟩) (fun f => ⟨fun h => ⟨⟨h.1, fun s x y z => h.2 s x (by omega) z⟩, h.2 i (by omega) (by omega) g⟩, fun h => ⟨h.1.1, fun s x y z => ?_⟩⟩)⟩
        by_cases e : s = i
        · subst e; exact h.2
        · exact h.1.2 s x (by omega) z
  · refine ⟨fun _ => q S L (zQ2.rf S) hL (hP.congr (fun f => ⟨fun h d hd r s hr hs tr ts => ?_, fun h d hd => h d (by omega)⟩)), fun e => absurd rfl e⟩
    by_cases e : d = c
    · subst e; exact absurd tr (hno r (Nat.zero_le _) hr)
    · exact h d (by omega) r s hr hs tr ts
theorem x4_startAlone {nr : Nat} {S : ZS} {Q : ZS → Prop} (h4 : S.1 1 1 = nI nr) (h2 : nr ≤ 8) (q : ∀ T, zQ2 22 23 S T → (∀ r, r < nr → T.1 22 r = nI r) → (∀ r, r < nr → T.1 23 r = 1) → Q T) : X4_startAlone S Q := by
  unfold X4_startAlone
  refine zl_up nr (fun i T => zQ2 22 23 S T ∧ (∀ r, r < i → T.1 22 r = nI r) ∧ ∀ r, r < i → T.1 23 r = 1) (by omega) (fun i T k hi hJ hk => ?_) S ⟨zQ2.rf S, fun r h => absurd h (Nat.not_lt_zero _), fun r h => absurd h (Nat.not_lt_zero _)⟩
  obtain ⟨hx, hj1, hj2⟩ := hJ
  show X4_startAlone_B2 (nI i) T Q k
  unfold X4_startAlone_B2 X4_startAlone_b33
  rw [hx.2 1 (by decide) (by decide), h4, nI_clamp (by omega)]
  refine ⟨fun z => ?_, fun z => ?_⟩
  · have := up_end (by omega) hi z
    subst this
    exact q T hx hj1 hj2
  · have hlt := up_on (by omega) hi z
    have hv : vp_in (nI i) 8 := vp_in_nI (by omega) (by omega)
    refine ⟨hv, fun U eU => ⟨hv, fun V eV w ew => ?_⟩⟩
    rw [nI_1] at ew
    subst ew
    refine hk hlt V ⟨by rw [eV, eU]; exact hx.ua.ub, fun r hr => ?_, fun r hr => ?_⟩
    · rw [eV, zu_ne (by decide), eU, zu_at]
      by_cases e : r = i
      · rw [if_pos ⟨rfl, e⟩, e]
      · rw [if_neg (by omega)]; exact hj1 r (by omega)
    · rw [eV, zu_at]
      by_cases e : r = i
      · rw [if_pos ⟨rfl, e⟩]
      · rw [if_neg (by omega), eU, zu_ne (by decide)]; exact hj2 r (by omega)
def cnt (p : Nat → Bool) : Nat → Nat
  | 0 => 0
  | n + 1 => cnt p n + (if p n = true then 1 else 0)
theorem cnt_s (p : Nat → Bool) (n : Nat) : cnt p (n + 1) = cnt p n + (if p n = true then 1 else 0) := rfl
theorem cnt_le (p : Nat → Bool) (n : Nat) : cnt p n ≤ n := by
  induction n with
  | zero => exact Nat.le_refl _
  | succ n ih =>
    rw [cnt_s]
    split <;> omega
theorem cnt_mono {p q : Nat → Bool} {n : Nat} (h : ∀ i, i < n → p i = true → q i = true) : cnt p n ≤ cnt q n := by
  induction n with
  | zero => exact Nat.le_refl _
  | succ n ih =>
    have := ih (fun i hi => h i (by omega))
    rw [cnt_s, cnt_s]
    by_cases g : p n = true
    · rw [if_pos g, if_pos (h n (by omega) g)]; omega
    · rw [if_neg g]; split <;> omega
theorem cnt_lt {p q : Nat → Bool} {n : Nat} (h : ∀ i, i < n → p i = true → q i = true) {j : Nat} (hj : j < n) (hq : q j = true) (hp : p j = false) : cnt p n < cnt q n := by
  induction n with
  | zero => omega
  | succ n ih =>
    rw [cnt_s, cnt_s]
    by_cases e : j = n
    · subst e
      have := cnt_mono (n := j) (fun i hi => h i (by omega))
      rw [hq, hp]
      simp only [if_true, Bool.false_eq_true, if_false]
      omega
    · have := ih (fun i hi => h i (by omega)) (by omega)
      by_cases g : p n = true
      · rw [if_pos g, if_pos (h n (by omega) g)]; omega
      · rw [if_neg g]; split <;> omega
theorem cnt_congr {p q : Nat → Bool} {n : Nat} (h : ∀ i, i < n → p i = q i) : cnt p n = cnt q n := by
  induction n with
  | zero => rfl
  | succ n ih => rw [cnt_s, cnt_s, ih (fun i hi => h i (by omega)), h n (by omega)]
/-- how many parts -/
def cl (M : Nat → Nat) (n : Nat) : Nat := cnt (fun r => decide (M r = r)) n
theorem x4_findParts {nc nr : Nat} {S : ZS} {Q : Int32 → ZS → Prop} (h1 : nc ≤ 10) (h2 : nr ≤ 8) (h3 : S.1 1 0 = nI nc) (h4 : S.1 1 1 = nI nr)
    (q : ∀ T M, zQ2 22 23 S T → (∀ r, r < nr → T.1 22 r = nI (M r)) → zP nr (cJ (fun r d => S.1 (14 + r) d ≠ 0) nr nc) M → Q (nI (cl M nr)) T) : X4_findParts S Q := by
  unfold X4_findParts
  refine x4_startAlone h4 h2 (fun S1 hx1 hs1 _ => ?_)
  refine zl_up nc (fun i T => zQ2 22 23 S T ∧ ∃ M, (∀ r, r < nr → T.1 22 r = nI (M r)) ∧ zP nr (cJ (fun r d => S.1 (14 + r) d ≠ 0) nr i) M) (by omega) (fun i T k hi hJ hk => ?_) S1 ⟨hx1, fun r => r, hs1, fun r hr => Nat.le_refl _, fun d hd => by omega, fun f _ r _ => rfl⟩
  obtain ⟨hx, M, hM, hP⟩ := hJ
  have h4' : T.1 1 1 = nI nr := by rw [hx.2 1 (by decide) (by decide)]; exact h4
  show X4_findParts_B6 (nI i) T Q k
  unfold X4_findParts_B6 X4_findParts_b28
  rw [hx.2 1 (by decide) (by decide), h3]
  refine ⟨fun z => ?_, fun z => ?_⟩
  · have := up_end (by omega) hi z
    subst this
    refine zl_up2 nr (fun j x U => U = T ∧ x = nI (cnt (fun r => decide (M r = r)) j)) (by omega) (fun j x U k2 hj hJ hk2 => ?_) 0 T ⟨rfl, rfl⟩
    obtain ⟨rfl, rfl⟩ := hJ
    show X4_findParts_B32 _ (nI j) U Q k2
    unfold X4_findParts_B32 X4_findParts_b62 X4_findParts_b56
    rw [h4', nI_clamp (by omega)]
    refine ⟨fun z => ?_, fun z => ?_⟩
    · have := up_end (by omega) hj z
      subst this
      exact q U M hx hM hP
    · have hlt := up_on (by omega) hj z
      have lj := hP.1 j hlt
      rw [hM j hlt, nI_eq (by omega) (by omega)]
      refine ⟨vp_in_nI (by omega) (by omega), fun g v ev w ew => ?_, fun g w ew => ?_⟩
      · rw [nI_1] at ew ev
        subst ew ev
        exact hk2 hlt _ _ ⟨rfl, by rw [cnt_s, if_pos (decide_eq_true g)]⟩
      · rw [nI_1] at ew
        subst ew
        exact hk2 hlt _ _ ⟨rfl, by rw [cnt_s, if_neg (by rw [decide_eq_true_eq]; exact g)]; rfl⟩
  · have hlt := up_on (by omega) hi z
    have e14 : ∀ r, r < nr → T.1 (14 + r) = S.1 (14 + r) := fun r hr => hx.2 _ (by omega) (by omega)
    have eJ : ∀ d f, cJ (fun r d => T.1 (14 + r) d ≠ 0) nr d f ↔ cJ (fun r d => S.1 (14 + r) d ≠ 0) nr d f := fun d f => cJ_congr (fun r e hr _ => by rw [e14 r hr])
    refine x4_joinColumn (L := M) h4' h2 (by omega) hM (hP.congr (fun f => (eJ i f).symm)) (fun U M2 hU hM2 hP2 w ew => ?_)
    rw [nI_1] at ew
    subst ew
    exact hk hlt U ⟨hx.tr hU, M2, hM2, hP2.congr (fun f => eJ (i + 1) f)⟩
