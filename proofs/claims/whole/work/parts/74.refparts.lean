/-! the reference's findParts -/
def zQ1 (a : Nat) (S T : ZS) : Prop := T.2 = S.2 ∧ ∀ n, n ≠ a → T.1 n = S.1 n
theorem zQ1.rf {a : Nat} (S : ZS) : zQ1 a S S := ⟨rfl, fun _ _ => rfl⟩
theorem zQ1.tr {a : Nat} {S T U : ZS} (h : zQ1 a S T) (g : zQ1 a T U) : zQ1 a S U := ⟨g.1.trans h.1, fun n x => (g.2 n x).trans (h.2 n x)⟩
theorem zQ1.u {a j : Nat} {v : Int32} {S T : ZS} (h : zQ1 a S T) : zQ1 a S (zu T a j v) := ⟨h.1, fun n x => by rw [zu_ne x]; exact h.2 n x⟩
theorem zQ1.per {a : Nat} {S T : ZS} (h : zQ1 a S T) (ha : zper a = false) (ha6 : a ≠ 61) : zPer S T := ⟨fun n hn => ⟨h.2 n (fun e => by rw [e, ha] at hn; cases hn), by rw [h.1]⟩, fun j _ _ => by rw [h.2 61 (Ne.symm ha6)]⟩
/-- the least of L over the first n rows that have a term, 8 if there is none -/
def mn (t : Nat → Prop) (L : Nat → Nat) (n m : Nat) : Prop := (∀ r, r < n → t r → m ≤ L r) ∧ (m = 8 ∨ ∃ r, r < n ∧ t r ∧ m = L r)
theorem x7_joinRows {c nc nr : Nat} {S : ZS} {Q : ZS → Prop} {L : Nat → Nat} (h6 : S.1 61 2 = nI nr) (h1 : nc ≤ 10) (h2 : nr ≤ 8) (hc : c < nc) (hL : ∀ r, r < nr → S.1 70 r = nI (L r)) (hl : ∀ r, r < nr → L r ≤ r)
    (q : ∀ (T : ZS) (M : Nat → Nat), zQ1 70 S T → (∀ r, r < nr → T.1 70 r = nI (M r)) → (∃ m, mn (fun r => S.1 67 (10 * r + c) ≠ 0) L nr m ∧ ∀ r, r < nr → (S.1 67 (10 * r + c) ≠ 0 → M r = m) ∧ (S.1 67 (10 * r + c) = 0 → M r = L r)) → Q T) : X7_joinRows (nI c) S Q := by
  unfold X7_joinRows
  refine zl_up2 nr (fun i x T => T = S ∧ ∃ m, m ≤ 8 ∧ x = nI m ∧ mn (fun r => S.1 67 (10 * r + c) ≠ 0) L i m) (by omega) (fun i x T k hi hJ hk => ?_) 8 S ⟨rfl, 8, Nat.le_refl _, rfl, fun r h => absurd h (Nat.not_lt_zero _), Or.inl rfl⟩
  obtain ⟨rfl, m, hm8, rfl, hm⟩ := hJ
  show X7_joinRows_B5 (nI c) (nI m) (nI i) T Q k
  unfold X7_joinRows_B5 X7_joinRows_b49 X7_joinRows_b41 X7_joinRows_b42
  rw [h6]
  refine ⟨fun z => ?_, fun z => ?_⟩
  · have := up_end (by omega) hi z
    subst this
    refine zl_up i (fun j U => zQ1 70 T U ∧ ∀ r, r < i → U.1 70 r = if r < j ∧ T.1 67 (10 * r + c) ≠ 0 then nI m else nI (L r)) (by omega) (fun j U k2 hj hJ hk2 => ?_) T ⟨zQ1.rf T, fun r hr => by rw [if_neg (by omega)]; exact hL r hr⟩
    obtain ⟨hx, hU⟩ := hJ
    show X7_joinRows_B51 (nI c) (nI m) (nI j) U Q k2
    unfold X7_joinRows_B51 X7_joinRows_b90 X7_joinRows_b83
    rw [hx.2 61 (by decide), h6]
    refine ⟨fun z => ?_, fun z => ?_⟩
    · have := up_end (by omega) hj z
      subst this
      refine q U (fun r => if T.1 67 (10 * r + c) ≠ 0 then m else L r) hx (fun r hr => ?_) ⟨m, hm, fun r hr => ⟨fun g => if_pos g, fun g => if_neg (fun w => w g)⟩⟩
      rw [hU r hr]
      by_cases g : T.1 67 (10 * r + c) ≠ 0
      · rw [if_pos ⟨hr, g⟩, if_pos g]
      · rw [if_neg (fun w => g w.2), if_neg g]
    · have hlt := up_on (by omega) hj z
      have hv : vp_in (nI j) 8 := vp_in_nI (by omega) (by omega)
      refine x7_coef (by omega) (by omega) ?_
      rw [hx.2 67 (by decide), nI_clamp (by omega)]
      have fin : ∀ (v : Int32) (V : ZS) (w : Int32), v = (if T.1 67 (10 * j + c) ≠ 0 then nI m else nI (L j)) → V = zu U 70 j v → w = nI j + 1 → k2 (w, V) := by
        intro v V w ev eV ew
        rw [nI_1] at ew
        subst ew
        refine hk2 hlt V ⟨by rw [eV]; exact hx.u, fun r hr => ?_⟩
        rw [eV, zu_at]
        by_cases e : r = j
        · subst e
          rw [if_pos ⟨rfl, rfl⟩, ev]
          by_cases g : T.1 67 (10 * r + c) ≠ 0
          · rw [if_pos g, if_pos ⟨by omega, g⟩]
          · rw [if_neg g, if_neg (fun w => g w.2)]
        · rw [if_neg (by omega), hU r hr]
          by_cases g : r < j ∧ T.1 67 (10 * r + c) ≠ 0
          · rw [if_pos g, if_pos ⟨by omega, g.2⟩]
          · rw [if_neg g, if_neg (fun w => g ⟨by omega, w.2⟩)]
      refine ⟨fun g => ⟨hv, hv, fun V eV w ew => fin _ V w ?_ eV ew⟩, fun g => ⟨hv, fun V eV w ew => fin _ V w ?_ eV ew⟩⟩
      · rw [hU j hlt, if_neg (by omega), if_neg (fun w => w g)]
      · rw [if_pos g]
  · have hlt := up_on (by omega) hi z
    have hv : vp_in (nI i) 8 := vp_in_nI (by omega) (by omega)
    have li := hl i hlt
    refine x7_coef (by omega) (by omega) ?_
    rw [nI_clamp (by omega), hL i hlt, nI_leI (by omega) (by omega)]
    refine ⟨fun g w ew => ?_, fun g => ⟨hv, fun g2 w ew => ?_, fun g2 => ⟨hv, fun w ew => ?_⟩⟩⟩
    · rw [nI_1] at ew
      subst ew
      refine hk hlt _ _ ⟨rfl, m, hm8, rfl, fun r hr tr => ?_, hm.2.imp id (fun ⟨r, a, b, e⟩ => ⟨r, by omega, b, e⟩)⟩
      by_cases e : r = i
      · subst e; exact absurd g tr
      · exact hm.1 r (by omega) tr
    · rw [nI_1] at ew
      subst ew
      refine hk hlt _ _ ⟨rfl, m, hm8, rfl, fun r hr tr => ?_, hm.2.imp id (fun ⟨r, a, b, e⟩ => ⟨r, by omega, b, e⟩)⟩
      by_cases e : r = i
      · subst e; exact g2
      · exact hm.1 r (by omega) tr
    · rw [nI_1] at ew
      subst ew
      refine hk hlt _ _ ⟨rfl, L i, by omega, rfl, fun r hr tr => ?_, Or.inr ⟨i, by omega, g, rfl⟩⟩
      by_cases e : r = i
      · subst e; exact Nat.le_refl _
      · have := hm.1 r (by omega) tr
        omega
/-- what stands between the rows themselves and the least rows -/
def zA2 (M L : Nat → Nat) (nr : Nat) : Prop := ∀ r, r < nr → L r ≤ r ∧ M (L r) = M r
def zK2 (M L : Nat → Nat) (nr k : Nat) : Prop := ∀ r, r < nr → L r ≠ M r → k + 1 ≤ cnt (fun s => decide (M s = M r ∧ L s = M s)) nr
theorem zA2.ge {M L : Nat → Nat} {nr r : Nat} {C : (Nat → Nat) → Prop} (h : zA2 M L nr) (hP : zP nr C M) (hr : r < nr) : M r ≤ L r := by
  have a := h r hr
  have b := hP.1 (L r) (by omega)
  omega
theorem k2_step {M L N : Nat → Nat} {nr nc k : Nat} {t : Nat → Nat → Prop} (hP : zP nr (cJ t nr nc) M) (hA : zA2 M L nr) (hB : zA2 M N nr) (hle : ∀ r, r < nr → N r ≤ L r) (hsh : ∀ d, d < nc → ∀ r s, r < nr → s < nr → t r d → t s d → N r ≤ L s) (hK : zK2 M L nr k) : zK2 M N nr (k + 1) := by
  intro r hr hw
  have keep : ∀ s, s < nr → L s = M s → N s = M s := fun s hs e => by
    have a := hle s hs
    have b := hB.ge hP hs
    omega
  have hw0 : L r ≠ M r := fun e => hw (keep r hr e)
  have h0 := hK r hr hw0
  have ex : ∃ s, s < nr ∧ M s = M r ∧ N s = M s ∧ L s ≠ M s := by
    refine Classical.byContradiction (fun no => ?_)
    have cl : cJ t nr nc (fun s => if M s = M r ∧ L s = M s then 1 else 0) := by
      have half : ∀ d, d < nc → ∀ a b, a < nr → b < nr → t a d → t b d → (M a = M r ∧ L a = M a) → (M b = M r ∧ L b = M b) := by
        intro d hd a b ha hb ta tb g
        have e1 : M a = M b := hP.2.1 d hd a b ha hb ta tb
        have e2 := hsh d hd b a hb ha tb ta
        have e3 := hB.ge hP hb
        refine ⟨by omega, Classical.byContradiction (fun g2 => no ⟨b, hb, by omega, by omega, g2⟩)⟩
      intro d hd a b ha hb ta tb
      dsimp only
      by_cases g : M a = M r ∧ L a = M a
      · rw [if_pos g, if_pos (half d hd a b ha hb ta tb g)]
      · rw [if_neg g, if_neg (fun w => g (half d hd b a hb ha tb ta w))]
    have e := hP.2.2 _ cl r hr
    have mr := hP.1 r hr
    have mm : M (M r) = M r := hP.2.2 M hP.2.1 r hr
    have lm := hA (M r) (by omega)
    have lg := hA.ge hP (show M r < nr by omega)
    rw [if_pos ⟨mm, by omega⟩, if_neg (fun w => hw0 w.2)] at e
    omega
  obtain ⟨s, hs, e1, e2, e3⟩ := ex
  have := cnt_lt (p := fun s => decide (M s = M r ∧ L s = M s)) (q := fun s => decide (M s = M r ∧ N s = M s)) (n := nr) (fun i hi g => by
    rw [decide_eq_true_eq] at g ⊢
    exact ⟨g.1, keep i hi g.2⟩) hs (decide_eq_true ⟨e1, e2⟩) (decide_eq_false (fun w => e3 w.2))
  omega
theorem x7_findParts {nc nr : Nat} {S : ZS} {Q : ZS → Prop} {M : Nat → Nat} (h1 : nc ≤ 10) (h2 : nr ≤ 8) (h5 : S.1 61 1 = nI nc) (h6 : S.1 61 2 = nI nr) (hP : zP nr (cJ (fun r d => S.1 67 (10 * r + d) ≠ 0) nr nc) M)
    (q : ∀ T, zQ1 70 S T → (∀ r, r < nr → T.1 70 r = nI (M r)) → Q T) : X7_findParts S Q := by
  unfold X7_findParts
  refine zl_up nr (fun i T => zQ1 70 S T ∧ ∀ r, r < i → T.1 70 r = nI r) (by omega) (fun i T k hi hJ hk => ?_) S ⟨zQ1.rf S, fun r h => absurd h (Nat.not_lt_zero _)⟩
  obtain ⟨hx, hj⟩ := hJ
  show X7_findParts_B2 (nI i) T Q k
  unfold X7_findParts_B2 X7_findParts_b23
  rw [hx.2 61 (by decide), h6, nI_clamp (by omega)]
  refine ⟨fun z => ?_, fun z => ?_⟩
  · have := up_end (by omega) hi z
    subst this
    refine zl_up i (fun k U => zQ1 70 S U ∧ ∃ L, (∀ r, r < i → U.1 70 r = nI (L r)) ∧ zA2 M L i ∧ zK2 M L i k) (by omega) (fun kk U k2 hkk hJ hk2 => ?_) T ⟨hx, fun r => r, hj, fun r hr => ⟨Nat.le_refl _, rfl⟩, fun r hr hw => ?_⟩
    · obtain ⟨hx2, L, hL, hA, hK⟩ := hJ
      show X7_findParts_B25 (nI kk) U Q k2
      unfold X7_findParts_B25 X7_findParts_b60
      rw [hx2.2 61 (by decide), h6]
      refine ⟨fun z => ?_, fun z => ?_⟩
      · have := up_end (by omega) hkk z
        subst this
        refine q U hx2 (fun r hr => ?_)
        rw [hL r hr]
        by_cases g : L r = M r
        · rw [g]
        · have a := hK r hr g
          have b := cnt_le (fun s => decide (M s = M r ∧ L s = M s)) kk
          omega
      · have hlt := up_on (by omega) hkk z
        refine zl_up nc (fun d V => zQ1 70 S V ∧ ∃ N, (∀ r, r < i → V.1 70 r = nI (N r)) ∧ zA2 M N i ∧ (∀ r, r < i → N r ≤ L r) ∧ ∀ e, e < d → ∀ r s, r < i → s < i → S.1 67 (10 * r + e) ≠ 0 → S.1 67 (10 * s + e) ≠ 0 → N r ≤ L s) (by omega) (fun d V k3 hd hJ hk3 => ?_) U ⟨hx2, L, hL, hA, fun r hr => Nat.le_refl _, fun e he => by omega⟩
        obtain ⟨hx3, N, hN, hB, hle, hsh⟩ := hJ
        show X7_findParts_B35 (nI kk) (nI d) V Q k2 k3
        unfold X7_findParts_B35 X7_findParts_b54
        rw [hx3.2 61 (by decide), h5]
        refine ⟨fun z w ew => ?_, fun z => ?_⟩
        · have := up_end (by omega) hd z
          subst this
          rw [nI_1] at ew
          subst ew
          exact hk2 hlt V ⟨hx3, N, hN, hB, k2_step hP hA hB hle hsh hK⟩
        · have hdlt := up_on (by omega) hd z
          refine x7_joinRows (nc := nc) (L := N) (by rw [hx3.2 61 (by decide)]; exact h6) h1 h2 hdlt hN (fun r hr => (hB r hr).1) (fun W M2 hW hM2 hex w ew => ?_)
          rw [nI_1] at ew
          subst ew
          rw [hx3.2 67 (by decide)] at hex
          obtain ⟨m, hm, hall⟩ := hex
          have dn : ∀ r, r < i → M2 r ≤ N r := fun r hr => by
            by_cases g : S.1 67 (10 * r + d) = 0
            · rw [(hall r hr).2 g]; exact Nat.le_refl _
            · rw [(hall r hr).1 g]; exact hm.1 r hr g
          refine hk3 hdlt W ⟨hx3.tr hW, M2, hM2, fun r hr => ?_, fun r hr => Nat.le_trans (dn r hr) (hle r hr), fun e he r s hr hs tr ts => ?_⟩
          · by_cases g : S.1 67 (10 * r + d) = 0
            · rw [(hall r hr).2 g]; exact hB r hr
            · have b := hB r hr
              have c := hm.1 r hr g
              rw [(hall r hr).1 g]
              refine ⟨by omega, ?_⟩
              rcases hm.2 with e8 | ⟨s, hs, ts, es⟩
              · omega
              · rw [es, (hB s hs).2]
                exact hP.2.1 d hdlt s r hs hr ts g
          · by_cases e9 : e = d
            · subst e9
              rw [(hall r hr).1 tr]
              exact Nat.le_trans (hm.1 s hs ts) (hle s hs)
            · exact Nat.le_trans (dn r hr) (hsh e (by omega) r s hr hs tr ts)
    · have mr := hP.1 r hr
      have mm : M (M r) = M r := hP.2.2 M hP.2.1 r hr
      have := cnt_lt (p := fun _ => false) (q := fun s => decide (M s = M r ∧ s = M s)) (n := i) (fun _ _ g => by cases g) (j := M r) (by omega) (decide_eq_true ⟨mm, mm.symm⟩) rfl
      show 0 + 1 ≤ cnt (fun s => decide (M s = M r ∧ s = M s)) i
      omega
  · have hlt := up_on (by omega) hi z
    refine ⟨vp_in_nI (by omega) (by omega), fun U eU w ew => ?_⟩
    rw [nI_1] at ew
    subst ew
    refine hk hlt U ⟨by rw [eU]; exact hx.u, fun r hr => ?_⟩
    rw [eU, zu_at]
    by_cases e : r = i
    · rw [if_pos ⟨rfl, e⟩, e]
    · rw [if_neg (by omega)]; exact hj r (by omega)
theorem k_7 {y1 y2 y3 : Int32} {S : ZS} {N : ZS → Prop} (h : Inv S) (hN : ∀ T, Inv T → N T) : lawc_7 y1 y2 y3 S N := by
  have hI := h
  obtain ⟨nc, nr, hC, hSol⟩ := h
  obtain ⟨h1, h2, h3, h4, h5, h6, h7, h8, h9, h10, h11⟩ := hC
  unfold lawc_7 X6_parts
  refine x4_findParts h1 h2 h3 h4 (fun T M hx hM hP => ?_)
  have hp1 : zPer S T := hx.per rfl rfl (by decide) (by decide)
  unfold X7_parts
  intro U eU
  have hp2 : zPer S U := by rw [eU]; exact hp1.u61 (Or.inl rfl)
  have e67 : U.1 67 = S.1 67 := (hp2.1 67 rfl).1
  refine x7_findParts (M := M) h1 h2 ((hp2.2 1 (by decide) (by decide)).trans h5) ((hp2.2 2 (by decide) (by decide)).trans h6) (hP.congr (fun f => cJ_congr (fun r d hr hd => by rw [e67, h9 r d hr hd]))) (fun V hV hVM => ?_)
  have hp3 : zPer S V := hp2.tr (hV.per rfl (by decide))
  refine zl_up2 nr (fun j x W => W = V ∧ x = nI (cnt (fun r => decide (M r = r)) j)) (by omega) (fun j x W k2 hj hJ hk2 => ?_) 0 V ⟨rfl, rfl⟩
  obtain ⟨rfl, rfl⟩ := hJ
  show X7_parts_B13 _ (nI j) W _ k2
  unfold X7_parts_B13 X7_parts_b45 X7_parts_b37
  rw [show W.1 61 2 = nI nr from (hp3.2 2 (by decide) (by decide)).trans h6, nI_clamp (by omega)]
  refine ⟨fun z => ?_, fun z => ?_⟩
  · have := up_end (by omega) hj z
    subst this
    exact ⟨fun _ => hN W (hI.per hp3), fun g => absurd rfl g⟩
  · have hlt := up_on (by omega) hj z
    have lj := hP.1 j hlt
    rw [hVM j hlt, nI_eq (by omega) (by omega)]
    refine ⟨vp_in_nI (by omega) (by omega), fun g v ev w ew => ?_, fun g v ev w ew => ?_⟩
    · rw [nI_1] at ew ev
      subst ew ev
      exact hk2 hlt _ _ ⟨rfl, by rw [cnt_s, if_pos (decide_eq_true g)]⟩
    · rw [nI_1] at ew
      subst ew ev
      exact hk2 hlt _ _ ⟨rfl, by rw [cnt_s, if_neg (by rw [decide_eq_true_eq]; exact g)]; exact nI_add _ 0⟩
theorem k_8 {y1 y2 y3 : Int32} {S : ZS} {N : ZS → Prop} (h : Inv S) (hN : ∀ T, Inv T → N T) : lawc_8 y1 y2 y3 S N := by
  have hI := h
  obtain ⟨nc, nr, hC, hSol⟩ := h
  obtain ⟨h1, h2, h3, h4, h5, h6, h7, h8, h9, h10, h11⟩ := hC
  unfold lawc_8 L_part X6_part X7_thrown
  refine m_needRow h4 h2 (fun r hr er => ?_) (fun hx => ⟨rfl, ?_⟩)
  · have hin : vp_in y1 8 := by rw [er]; exact vp_in_nI (by omega) (by omega)
    have hcl : y1.toNatClampNeg = r := by rw [er]; exact nI_clamp (by omega)
    refine x4_findParts h1 h2 h3 h4 (fun T M hx hM hP => ⟨hin, fun U eU => ?_⟩)
    rw [hcl, hM r hr] at eU
    have hp1 : zPer S T := hx.per rfl rfl (by decide) (by decide)
    have hp2 : zPer S U := by rw [eU]; exact hp1.w rfl
    unfold X7_part X7_part_b14
    refine m_isRow (n := nr) ((hp2.2 2 (by decide) (by decide)).trans h6) h2 (fun c' hc' ec' => ⟨fun z => absurd z (by decide), fun _ => ?_⟩) (fun hx => absurd er (hx r hr))
    refine m_passes (fun z => absurd rfl z) (fun _ z => absurd rfl z) (fun _ _ => ⟨fun z => absurd z (by decide), fun _ => ?_⟩)
    have hp3 : zPer S (zu U 61 0 0) := hp2.u61 (Or.inl rfl)
    have e67 : (zu U 61 0 0).1 67 = S.1 67 := (hp3.1 67 rfl).1
    refine x7_findParts (M := M) h1 h2 ((hp3.2 1 (by decide) (by decide)).trans h5) ((hp3.2 2 (by decide) (by decide)).trans h6) (hP.congr (fun f => cJ_congr (fun r d hr hd => by rw [e67, h9 r d hr hd]))) (fun V hV hVM => ⟨hin, ?_⟩)
    have hp4 : zPer S V := hp3.tr (hV.per rfl (by decide))
    have e0 : V.1 61 0 = 0 := by rw [hV.2 61 (by decide)]; exact thr_at
    have e82 : V.2 82 0 = Int32.toInt64 (nI (M r)) := by rw [hV.1]; show U.2 82 0 = _; rw [eU, zw_at, if_pos ⟨rfl, rfl⟩]
    rw [hcl, hVM r hr]
    dsimp only
    rw [e82, e0]
    exact ⟨fun _ => ⟨fun _ => ⟨fun _ => hN V (hI.per hp4), fun g => absurd (lg_eq.mpr rfl) g⟩, fun g => absurd rfl g⟩, fun g => absurd rfl g⟩
  · unfold X7_part X7_part_b14
    refine m_isRow h6 h2 (fun c' hc' ec' => absurd ec' (hx c' hc')) (fun _ => ⟨fun _ => ?_, fun z => absurd rfl z⟩)
    refine m_passes (fun _ => ⟨fun _ => ?_, fun z => absurd rfl z⟩) (fun z => absurd z (by decide)) (fun z => absurd z (by decide))
    exact ⟨fun _ => ⟨fun g => absurd g (by decide), fun _ => hN _ (hI.thrown 1)⟩, fun g => absurd thr_at g⟩
