/-! the class's findSigns -/
def aC (S : ZS) (r c : Nat) : Int := (S.1 (14 + r) c).toInt
theorem aC_0 {S : ZS} {r c : Nat} : S.1 (14 + r) c = 0 ↔ aC S r c = 0 := by
  unfold aC
  rw [i_eq]
  have : (0 : Int32).toInt = 0 := by decide
  rw [this]
theorem x5_countTerms {c nr : Nat} {S : ZS} {Q : Int32 → ZS → Prop} (h4 : S.1 1 1 = nI nr) (h2 : nr ≤ 8) (hc : c < 10) (q : Q (nI (tms (aC S) nr c)) S) : X5_countTerms (nI c) S Q := by
  unfold X5_countTerms
  refine zl_up2 nr (fun i x T => T = S ∧ x = nI (tms (aC S) i c)) (by omega) (fun i x T k hi hJ hk => ?_) 0 S ⟨rfl, rfl⟩
  obtain ⟨rfl, rfl⟩ := hJ
  show X5_countTerms_B4 (nI c) _ (nI i) T Q k
  unfold X5_countTerms_B4 X5_countTerms_b32 X5_countTerms_b26
  rw [h4, nI_clamp (by omega), nI_clamp (by omega)]
  refine ⟨fun z => ?_, fun z => ?_⟩
  · have := up_end (by omega) hi z
    subst this
    exact q
  · have hlt := up_on (by omega) hi z
    refine ⟨vp_in_nI (by omega) (by omega), vp_in_nI (by omega) (by omega), fun g w ew => ?_, fun g v ev w ew => ?_⟩
    · rw [nI_1] at ew
      subst ew
      rw [aC_0] at g
      exact hk hlt _ _ ⟨rfl, by unfold tms; rw [cnt_s, if_neg (by rw [decide_eq_true_eq]; exact fun w => w g)]; rfl⟩
    · rw [nI_1] at ew ev
      subst ew ev
      rw [aC_0] at g
      exact hk hlt _ _ ⟨rfl, by unfold tms; rw [cnt_s, if_pos (decide_eq_true g)]⟩
theorem two_lt {n : Nat} (h : n ≤ 10) : (2 : Int32) < nI n ↔ 2 < n := by
  show nI 2 < nI n ↔ 2 < n
  exact nI_ltI (by omega) (by omega)
theorem x4_canBeArc {c nr : Nat} {S : ZS} {Q : Int32 → ZS → Prop} (h4 : S.1 1 1 = nI nr) (h2 : nr ≤ 8) (hc : c < 10) (q1 : pln (aC S) nr c → Q 1 S) (q0 : ¬ pln (aC S) nr c → Q 0 S) : X4_canBeArc (nI c) S Q := by
  have a1 : (1 : Int32).toInt = 1 := by decide
  unfold X4_canBeArc
  refine zl_up nr (fun i T => T = S ∧ ∀ r, r < i → -1 ≤ aC S r c ∧ aC S r c ≤ 1) (by omega) (fun i T k hi hJ hk => ?_) S ⟨rfl, fun r h => absurd h (Nat.not_lt_zero _)⟩
  obtain ⟨rfl, hj⟩ := hJ
  show X4_canBeArc_B2 (nI c) (nI i) T Q k
  unfold X4_canBeArc_B2 X4_canBeArc_b39 X4_canBeArc_b31 X4_canBeArc_b56
  rw [h4, nI_clamp (by omega), nI_clamp (by omega)]
  refine ⟨fun z => ?_, fun z => ?_⟩
  · have := up_end (by omega) hi z
    subst this
    refine x5_countTerms h4 h2 hc ?_
    have hb := cnt_le (fun r => decide (aC T r c ≠ 0)) i
    rw [two_lt (by unfold tms; omega)]
    exact ⟨fun g => ⟨Or.inl rfl, q0 (fun w => by have := w.2; omega)⟩, fun g => ⟨Or.inr rfl, q1 ⟨hj, by omega⟩⟩⟩
  · have hlt := up_on (by omega) hi z
    refine ⟨vp_in_nI (by omega) (by omega), vp_in_nI (by omega) (by omega), m_isWithin (by decide) ?_⟩
    rw [zb_0, a1]
    refine ⟨fun g => ⟨Or.inl rfl, q0 (fun w => g (w.1 i hlt))⟩, fun g w ew => ?_⟩
    rw [nI_1] at ew
    subst ew
    have g2 := Classical.not_not.mp g
    exact hk hlt _ ⟨rfl, fun r hr => by
      by_cases e : r = i
      · rw [e]; exact g2
      · exact hj r (by omega)⟩
/-- the signs' cells -/
def sgc (S : ZS) (r : Nat) : Int := (S.1 23 r).toInt
theorem pm_toInt {x : Int32} (h : x.toInt = 1 ∨ x.toInt = -1) {t : Int32} (ht : t.toInt = 1 ∨ t.toInt = -1) : (x * t).toInt = x.toInt * t.toInt := by
  refine i_mul ?_ ?_ <;> rcases h with e | e <;> rcases ht with e2 | e2 <;> rw [e, e2] <;> decide
theorem x4_takeArc {c nr : Nat} {S : ZS} {Q : Int32 → ZS → Prop} {L : Nat → Nat} (h4 : S.1 1 1 = nI nr) (h2 : nr ≤ 8) (hc : c < 10) (hp : pln (aC S) nr c) (hL : ∀ r, r < nr → S.1 22 r = nI (L r)) (hP : zP nr (cJ (tr (aC S)) nr c) L) (hG : sG (aC S) nr c L (sgc S))
    (q1 : ∀ T M, zQ2 22 23 S T → (∀ r, r < nr → T.1 22 r = nI (M r)) → zP nr (cJ (tr (aC S)) nr (c + 1)) M → sG (aC S) nr (c + 1) M (sgc T) → Q 1 T) (q0 : sEx (aC S) nr c → ¬ sEx (aC S) nr (c + 1) → Q 0 S) : X4_takeArc (nI c) S Q := by
  have b0 : (0 : Int32).toInt = 0 := by decide
  unfold X4_takeArc
  refine x5_nextTerm (b := 0) h4 h2 hc (Nat.zero_le _) (fun x hx => ?_)
  rcases hx with ⟨a, _, ha, ta, na, rfl⟩ | ⟨hno, rfl⟩
  · refine ⟨fun e => absurd e (nI_m1 (by omega)), fun _ => ?_⟩
    rw [nI_1]
    refine x5_nextTerm (b := a + 1) h4 h2 hc (by omega) (fun y hy => ?_)
    unfold X4_takeArc_b30
    rw [nI_clamp (by omega), nI_clamp (by omega)]
    rcases hy with ⟨b, hab, hb, tb, nb, rfl⟩ | ⟨hno, rfl⟩
    · refine ⟨fun e => absurd e (nI_m1 (by omega)), fun _ => ?_⟩
      rw [nI_clamp (by omega)]
      have va : vp_in (nI a) 8 := vp_in_nI (by omega) (by omega)
      have vb : vp_in (nI b) 8 := vp_in_nI (by omega) (by omega)
      have vc : vp_in (nI c) 10 := vp_in_nI (by omega) (by omega)
      have la := hP.1 a ha
      have lb := hP.1 b hb
      have ta' : aC S a c ≠ 0 := fun e => ta (aC_0.mpr e)
      have tb' : aC S b c ≠ 0 := fun e => tb (aC_0.mpr e)
      have ua := unit_pm ta' (hp.1 a ha)
      have ub := unit_pm tb' (hp.1 b hb)
      have sa := hG.1 a ha
      have sb := hG.1 b hb
      have ea : (S.1 23 a * S.1 (14 + a) c).toInt = sgc S a * aC S a c := pm_toInt sa ua
      have eb : (S.1 23 b * S.1 (14 + b) c).toInt = sgc S b * aC S b c := pm_toInt sb ub
      have pa := pm_mul sa ua
      have pb := pm_mul sb ub
      have eq : (S.1 23 a * S.1 (14 + a) c + S.1 23 b * S.1 (14 + b) c = 0) ↔ sgc S a * aC S a c + sgc S b * aC S b c = 0 := by
        rw [i_eq, b0, i_add (by rw [ea, eb]; omega) (by rw [ea, eb]; omega), ea, eb]
      have fin : ∀ t0 : Int32, zbit t0 → (¬ t0 = 0 ↔ sgc S a * aC S a c + sgc S b * aC S b c = 0) → X4_takeArc_b83 (nI a) (nI b) t0 S Q := by
        intro t0 hz ht
        unfold X4_takeArc_b83 X4_takeArc_b116
        rw [nI_clamp (by omega), nI_clamp (by omega), hL a ha, hL b hb, nI_eq (by omega) (by omega)]
        have go : ∀ t : Int32, (t = 1 ∨ t = -1) → L a ≠ L b → (sgc S a * aC S a c + sgc S b * aC S b c = 0 → t.toInt = 1) → (¬ sgc S a * aC S a c + sgc S b * aC S b c = 0 → t.toInt = -1) → X4_join (nI a) (nI b) t S (fun S_116 => zbit (1 : Int32) ∧ Q (1 : Int32) S_116) := by
          intro t htt g g1 g2
          have htt' : t.toInt = 1 ∨ t.toInt = -1 := by rcases htt with rfl | rfl <;> decide
          refine x4_join (L := L) h4 h2 ha hb hL hP.1 (fun T hT h22 h23 => ⟨Or.inr rfl, ?_⟩)
          obtain ⟨w1, w2⟩ := two_ok (t := t.toInt) hp ha hb (by omega) ta' tb' hP hG g g1 g2
          refine q1 T _ hT h22 w1 ?_
          have es : ∀ r, r < nr → sgc T r = st L (sgc S) a b t.toInt r := fun r hr => by
            unfold sgc st
            rw [h23 r hr]
            by_cases c1 : L a ≠ L b ∧ L r = max (L a) (L b)
            · rw [if_pos c1, if_pos c1, pm_toInt (hG.1 r hr) htt']
            · rw [if_neg c1, if_neg c1]
          have lj : ∀ r, r < nr → jn L a b r < nr := fun r hr => by have := w1.1 r hr; omega
          refine ⟨fun r hr => by rw [es r hr]; exact w2.1 r hr, fun r hr => by rw [es _ (lj r hr)]; exact w2.2.1 r hr, fun d hd => ?_, fun f f1 f2 r hr => by rw [es r hr]; exact w2.2.2.2 f f1 f2 r hr⟩
          rcases w2.2.2.1 d hd with z | z
          · exact Or.inl z
          · right
            rw [← z]
            exact sI_congr (fun r hr => by rw [es r hr])
        refine ⟨va, vb, fun g => ⟨hz, ?_⟩, fun g => ⟨fun g2 => go _ (Or.inr rfl) g ?_ (fun _ => by decide), fun g2 => go _ (Or.inl rfl) g (fun _ => by decide) ?_⟩⟩
        · by_cases g2 : t0 = 0
          · rw [g2]
            obtain ⟨w1, w2⟩ := same_no hp ha hb (by omega) ta' tb' hP hG g (fun w => absurd g2 (ht.mpr w))
            exact q0 w1 w2
          · rw [hz.elim (fun w => absurd w g2) id]
            obtain ⟨w1, w2⟩ := same_ok hp ha hb (by omega) ta' tb' hP hG g (ht.mp g2)
            exact q1 S L (zQ2.rf S) hL w1 w2
        · intro w
          exact absurd g2 (ht.mpr w)
        · intro w
          exact absurd (ht.mp g2) w
      refine ⟨va, va, vc, vb, vb, vc, fun g => fin 1 (Or.inr rfl) ⟨fun _ => eq.mp g, fun _ => by decide⟩, fun g => fin 0 (Or.inl rfl) ⟨fun w => absurd rfl w, fun w => absurd (eq.mpr w) g⟩⟩
    · refine ⟨fun _ => ⟨Or.inr rfl, ?_⟩, fun e => absurd rfl e⟩
      have ht : tms (aC S) nr c < 2 := by
        have : tms (aC S) nr c ≤ 1 := cnt_one (a := a) (fun i hi g => by
          rw [decide_eq_true_eq] at g
          have g' : S.1 (14 + i) c ≠ 0 := fun e => g (aC_0.mp e)
          rcases Nat.lt_trichotomy i a with q | q | q
          · exact absurd g' (na i (Nat.zero_le _) q)
          · exact q
          · exact absurd g' (hno i q hi))
        omega
      obtain ⟨w1, w2⟩ := lone ht hP hG
      exact q1 S L (zQ2.rf S) hL w1 w2
  · refine ⟨fun _ => ?_, fun e => absurd rfl e⟩
    unfold X4_takeArc_b30
    refine ⟨fun _ => ⟨Or.inr rfl, ?_⟩, fun e => absurd rfl e⟩
    have ht : tms (aC S) nr c < 2 := by
      have : tms (aC S) nr c = 0 := cnt_z (fun i hi => decide_eq_false (fun g => hno i (Nat.zero_le _) hi (fun e => g (aC_0.mp e))))
      omega
    obtain ⟨w1, w2⟩ := lone ht hP hG
    exact q1 S L (zQ2.rf S) hL w1 w2
/-- what is found: parts and signs -/
def fnd (S T : ZS) (nr nc : Nat) (L : Nat → Nat) (s : Nat → Int) : Prop := (∀ r, r < nr → T.1 22 r = nI (L r)) ∧ (∀ r, r < nr → (T.1 23 r).toInt = s r) ∧ zP nr (cJ (tr (aC S)) nr nc) L ∧ sG (aC S) nr nc L s
theorem x4_findSigns {nc nr : Nat} {S : ZS} {Q : Int32 → ZS → Prop} (h1 : nc ≤ 10) (h2 : nr ≤ 8) (h3 : S.1 1 0 = nI nc) (h4 : S.1 1 1 = nI nr)
    (q : ∀ x T, zQ2 22 23 S T → fR (aC S) nr nc x → (x = -1 → ∃ L s, fnd S T nr nc L s) → Q x T) : X4_findSigns S Q := by
  unfold X4_findSigns
  refine zl_up nc (fun i T => T = S ∧ ∀ d, d < i → pln (aC S) nr d) (by omega) (fun i T k hi hJ hk => ?_) S ⟨rfl, fun r h => absurd h (Nat.not_lt_zero _)⟩
  obtain ⟨rfl, hj⟩ := hJ
  show X4_findSigns_B2 (nI i) T Q k
  unfold X4_findSigns_B2 X4_findSigns_b29 X4_findSigns_b21
  rw [h3]
  refine ⟨fun z => ?_, fun z => ?_⟩
  · have := up_end (by omega) hi z
    subst this
    refine x4_startAlone h4 h2 (fun S1 hx1 hs1 hg1 => ?_)
    have aE : ∀ U, zQ2 22 23 T U → ∀ r, r < nr → ∀ d, aC U r d = aC T r d := fun U hU r hr d => by unfold aC; rw [hU.2 (14 + r) (by omega) (by omega)]
    refine zl_up i (fun j U => zQ2 22 23 T U ∧ ∃ L, (∀ r, r < nr → U.1 22 r = nI (L r)) ∧ zP nr (cJ (tr (aC T)) nr j) L ∧ sG (aC T) nr j L (sgc U)) (by omega) (fun j U k2 hjj hJ hk2 => ?_) S1 ⟨hx1, fun r => r, hs1, ⟨fun r hr => Nat.le_refl _, fun d hd => by omega, fun f _ r _ => rfl⟩, fun r hr => Or.inl ?_, fun r hr => ?_, fun d hd => by omega, fun f _ _ r hr => ?_⟩
    · obtain ⟨hx, L, hL, hP, hG⟩ := hJ
      have h4' : U.1 1 1 = nI nr := by rw [hx.2 1 (by decide) (by decide)]; exact h4
      show X4_findSigns_B35 (nI j) U Q k2
      unfold X4_findSigns_B35 X4_findSigns_b62 X4_findSigns_b54
      rw [hx.2 1 (by decide) (by decide), h3]
      refine ⟨fun z => ?_, fun z => ?_⟩
      · have := up_end (by omega) hjj z
        subst this
        exact q _ U hx (Or.inr ⟨hj, Or.inr ⟨⟨sgc U, hG.1, hG.2.2.1⟩, rfl⟩⟩) (fun _ => ⟨L, sgc U, hL, fun r hr => rfl, hP, hG⟩)
      · have hlt := up_on (by omega) hjj z
        have e1 : ∀ d, tms (aC U) nr d = tms (aC T) nr d := fun d => cnt_congr (fun r hr => by rw [aE U hx r hr])
        have e2 : ∀ d f, sD (aC U) nr d f ↔ sD (aC T) nr d f := fun d f => by
          unfold sD
          rw [e1, sI_congr (fun r hr => by rw [aE U hx r hr])]
        have e3 : ∀ d f, sDs (aC U) nr d f ↔ sDs (aC T) nr d f := fun d f => ⟨fun h e he => (e2 e f).mp (h e he), fun h e he => (e2 e f).mpr (h e he)⟩
        have e4 : ∀ d f, cJ (tr (aC U)) nr d f ↔ cJ (tr (aC T)) nr d f := fun d f => cJ_congr (fun r e hr _ => by unfold tr; rw [aE U hx r hr])
        have e5 : ∀ d, sEx (aC U) nr d ↔ sEx (aC T) nr d := fun d => ⟨fun ⟨f, a, b⟩ => ⟨f, a, (e3 d f).mp b⟩, fun ⟨f, a, b⟩ => ⟨f, a, (e3 d f).mpr b⟩⟩
        have e6 : ∀ d M s, sG (aC U) nr d M s ↔ sG (aC T) nr d M s := fun d M s => ⟨fun h => ⟨h.1, h.2.1, (e3 d s).mp h.2.2.1, fun f a b => h.2.2.2 f a ((e3 d f).mpr b)⟩, fun h => ⟨h.1, h.2.1, (e3 d s).mpr h.2.2.1, fun f a b => h.2.2.2 f a ((e3 d f).mp b)⟩⟩
        have hpl : pln (aC U) nr j := ⟨fun r hr => by rw [aE U hx r hr]; exact (hj j hlt).1 r hr, by rw [e1]; exact (hj j hlt).2⟩
        refine x4_takeArc (L := L) h4' h2 (by omega) hpl hL (hP.congr (fun f => (e4 j f).symm)) ((e6 j L _).mpr hG) (fun V M hV hM hPM hGM => ⟨fun g => absurd g (by decide), fun _ w ew => ?_⟩) (fun x1 x2 => ⟨fun _ => ?_, fun g => absurd rfl g⟩)
        · rw [nI_1] at ew
          subst ew
          exact hk2 hlt V ⟨hx.tr hV, M, hM, hPM.congr (fun f => e4 (j + 1) f), (e6 (j + 1) M _).mp hGM⟩
        · exact q _ U hx (Or.inr ⟨hj, Or.inl ⟨j, hlt, (e5 j).mp x1, fun w => x2 ((e5 (j + 1)).mpr w), rfl⟩⟩) (fun e => absurd e (nI_m1 (by omega)))
    · show (S1.1 23 r).toInt = 1
      rw [hg1 r hr]; decide
    · show (S1.1 23 r).toInt = 1
      rw [hg1 r hr]; decide
    · show f r = (S1.1 23 r).toInt * f r
      rw [hg1 r hr]
      have : (1 : Int32).toInt = 1 := by decide
      rw [this, Int.one_mul]
  · have hlt := up_on (by omega) hi z
    refine x4_canBeArc h4 h2 (by omega) (fun g => ⟨fun e => absurd e (by decide), fun _ w ew => ?_⟩) (fun g => ⟨fun _ => q _ T (zQ2.rf T) (Or.inl ⟨i, hlt, g, hj, rfl⟩) (fun e => absurd e (nI_m1 (by omega))), fun e => absurd rfl e⟩)
    rw [nI_1] at ew
    subst ew
    exact hk hlt _ ⟨rfl, fun d hd => by
      by_cases e : d = i
      · rw [e]; exact g
      · exact hj d (by omega)⟩
