/-! way() -/
def two (nr : Nat) (f : Nat → Int32) (L : Nat → Nat) : Prop := ∃ e s, e < nr ∧ s < nr ∧ f e = 1 ∧ f s = -1 ∧ (∀ r, r < nr → f r ≠ 0 → r = e ∨ r = s) ∧ L e = L s
theorem two_e {nr : Nat} {f : Nat → Int32} {L : Nat → Nat} (h : two nr f L) {a b : Nat} (ha : a < nr) (hb : b < nr) (fa : f a = 1) (fb : f b = 1) : a = b := by
  obtain ⟨e, s, he, hs, fe, fs, hu, hL⟩ := h
  have go : ∀ r, r < nr → f r = 1 → r = e := fun r hr fr => (hu r hr (by rw [fr]; decide)).elim id (fun w => by rw [w, fs] at fr; exact absurd fr (by decide))
  rw [go a ha fa, go b hb fb]
theorem two_s {nr : Nat} {f : Nat → Int32} {L : Nat → Nat} (h : two nr f L) {a b : Nat} (ha : a < nr) (hb : b < nr) (fa : f a = -1) (fb : f b = -1) : a = b := by
  obtain ⟨e, s, he, hs, fe, fs, hu, hL⟩ := h
  have go : ∀ r, r < nr → f r = -1 → r = s := fun r hr fr => (hu r hr (by rw [fr]; decide)).elim (fun w => by rw [w, fe] at fr; exact absurd fr (by decide)) id
  rw [go a ha fa, go b hb fb]
theorem two_z {nr : Nat} {f : Nat → Int32} {L : Nat → Nat} (h : two nr f L) {a : Nat} (ha : a < nr) (fa : f a ≠ 0) : f a = 1 ∨ f a = -1 := by
  obtain ⟨e, s, he, hs, fe, fs, hu, hL⟩ := h
  rcases hu a ha fa with w | w
  · rw [w]; exact Or.inl fe
  · rw [w]; exact Or.inr fs
/-- the one row with a number, as far as the loop has come -/
def one1 (f : Nat → Int32) (v : Int32) (i : Nat) (x : Int32) : Prop := (x = -1 ∧ ∀ r, r < i → f r ≠ v) ∨ ∃ e, e < i ∧ x = nI e ∧ f e = v ∧ ∀ r, r < i → f r = v → r = e
theorem one1_keep {f : Nat → Int32} {v : Int32} {i : Nat} {x : Int32} (h : one1 f v i x) (g : f i ≠ v) : one1 f v (i + 1) x := by
  rcases h with ⟨e, h⟩ | ⟨e, he, ex, fe, hu⟩
  · refine Or.inl ⟨e, fun r hr => ?_⟩
    by_cases w : r = i
    · rw [w]; exact g
    · exact h r (by omega)
  · refine Or.inr ⟨e, by omega, ex, fe, fun r hr fr => ?_⟩
    by_cases w : r = i
    · rw [w] at fr; exact absurd fr g
    · exact hu r (by omega) fr
theorem one1_new {f : Nat → Int32} {v : Int32} {i : Nat} (hi : i ≤ 10) (h : one1 f v i (-1)) (g : f i = v) : one1 f v (i + 1) (nI i) := by
  rcases h with ⟨_, h⟩ | ⟨e, he, ex, _, _⟩
  · refine Or.inr ⟨i, by omega, rfl, g, fun r hr fr => ?_⟩
    by_cases w : r = i
    · exact w
    · exact absurd fr (h r (by omega))
  · exact absurd ex.symm (nI_m1 (by omega))
theorem x4_hasTwoEnds {nr : Nat} {T : ZS} {Q : Int32 → ZS → Prop} {L : Nat → Nat} (h4 : T.1 1 1 = nI nr) (h2 : nr ≤ 8) (h22 : ∀ r, r < nr → T.1 22 r = nI (L r)) (hL : ∀ r, r < nr → L r ≤ r) (q : ∀ v, zbit v → (v = 1 ↔ two nr (fun r => T.1 12 r * T.1 23 r) L) → Q v T) : X4_hasTwoEnds T Q := by
  have no : ¬ two nr (fun r => T.1 12 r * T.1 23 r) L → zbit (0 : Int32) ∧ Q 0 T := fun h => ⟨Or.inl rfl, q 0 (Or.inl rfl) (bit_no h)⟩
  revert no q
  generalize ef : (fun r => T.1 12 r * T.1 23 r) = f
  intro q no
  have efr : ∀ r, T.1 12 r * T.1 23 r = f r := fun r => by rw [← ef]
  unfold X4_hasTwoEnds
  refine zl_up3 nr (fun i x y U => U = T ∧ one1 f (-1) i x ∧ one1 f 1 i y ∧ ∀ r, r < i → f r = 0 ∨ f r = 1 ∨ f r = -1) (by omega) (fun i x y U k hi hJ hk => ?_) (-1) (-1) T ⟨rfl, Or.inl ⟨rfl, fun r hr => by omega⟩, Or.inl ⟨rfl, fun r hr => by omega⟩, fun r hr => by omega⟩
  obtain ⟨rfl, hx, hy, hf⟩ := hJ
  show X4_hasTwoEnds_B6 x y (nI i) U Q k
  unfold X4_hasTwoEnds_B6
  rw [h4]
  refine ⟨fun z => ?_, fun z => ?_⟩
  · have := up_end (by omega) hi z
    subst this
    unfold X4_hasTwoEnds_b80 X4_hasTwoEnds_b109 X4_hasTwoEnds_b110
    refine ⟨fun g => no (fun h => ?_), fun g => ⟨fun g2 => no (fun h => ?_), fun g2 => ?_⟩⟩
    · obtain ⟨e, s, he, hs, fe, fs, hu, hLL⟩ := h
      rcases hx with ⟨_, w⟩ | ⟨a, ha, ea, _, _⟩
      · exact w s hs fs
      · rw [g] at ea; exact nI_m1 (by omega) ea.symm
    · obtain ⟨e, s, he, hs, fe, fs, hu, hLL⟩ := h
      rcases hy with ⟨_, w⟩ | ⟨a, ha, ea, _, _⟩
      · exact w e he fe
      · rw [g2] at ea; exact nI_m1 (by omega) ea.symm
    · rcases hx with ⟨w, _⟩ | ⟨a, ha, ea, fa, ua⟩
      · exact absurd w g
      · rcases hy with ⟨w, _⟩ | ⟨b, hb, eb, fb, ub⟩
        · exact absurd w g2
        · subst ea eb
          have la := hL a ha
          have lb := hL b hb
          rw [nI_clamp (by omega), nI_clamp (by omega), h22 a ha, h22 b hb, nI_eq (by omega) (by omega)]
          refine ⟨vp_in_nI (by omega) (by omega), vp_in_nI (by omega) (by omega), fun e => ⟨Or.inr rfl, q 1 (Or.inr rfl) (bit_yes ⟨b, a, hb, ha, fb, fa, fun r hr hne => ?_, e.symm⟩)⟩, fun e => no (fun h => ?_)⟩
          · rcases hf r hr with w | w | w
            · exact absurd w hne
            · exact Or.inl (ub r hr w)
            · exact Or.inr (ua r hr w)
          · have h' := h
            obtain ⟨e', s', he', hs', fe', fs', hu', hLL⟩ := h
            rw [two_e h' he' hb fe' fb, two_s h' hs' ha fs' fa] at hLL
            exact e hLL.symm
  · have hlt := up_on (by omega) hi z
    rw [nI_clamp (by omega), efr]
    refine ⟨vp_in_nI (by omega) (by omega), vp_in_nI (by omega) (by omega), fun w ew => ?_⟩
    subst ew
    unfold X4_hasTwoEnds_b51 X4_hasTwoEnds_b67 X4_hasTwoEnds_b74 X4_hasTwoEnds_b72
    have go : ∀ x' y' w : Int32, one1 f (-1) (i + 1) x' → one1 f 1 (i + 1) y' → (f i = 0 ∨ f i = 1 ∨ f i = -1) → w = nI i + 1 → k (x', y', w, U) := by
      intro x' y' w a b c ew
      rw [nI_1] at ew
      subst ew
      refine hk hlt _ _ _ ⟨rfl, a, b, fun r hr => ?_⟩
      by_cases e : r = i
      · rw [e]; exact c
      · exact hf r (by omega)
    have dup1 : f i = 1 → ¬ y = -1 → ¬ two nr f L := fun e g h => by
      rcases hy with ⟨w, _⟩ | ⟨b, hb, eb, fb, ub⟩
      · exact g w
      · have := two_e h (by omega : b < nr) hlt fb e
        omega
    have dup2 : f i = -1 → ¬ x = -1 → ¬ two nr f L := fun e g h => by
      rcases hx with ⟨w, _⟩ | ⟨b, hb, eb, fb, ub⟩
      · exact g w
      · have := two_s h (by omega : b < nr) hlt fb e
        omega
    have n1 : f i = 1 → f i ≠ -1 := fun e w => by rw [e] at w; exact absurd w (by decide)
    refine ⟨fun g => ⟨fun g2 w ew => ?_, fun g2 => ⟨fun g3 => absurd g3 (n1 g), fun _ => ⟨fun g4 => absurd (g.symm.trans g4) (by decide), fun _ => no (dup1 g g2)⟩⟩⟩, fun g => ⟨fun g3 => ⟨fun g4 w ew => ?_, fun g4 => ⟨fun g5 => absurd (g3.symm.trans g5) (by decide), fun _ => no (dup2 g3 g4)⟩⟩, fun g3 => ⟨fun g5 w ew => ?_, fun g5 => no (fun h => (two_z h hlt g5).elim g g3)⟩⟩⟩
    · subst g2
      exact go _ _ w (one1_keep hx (n1 g)) (one1_new (by omega) hy g) (Or.inr (Or.inl g)) ew
    · subst g4
      exact go _ _ w (one1_new (by omega) hx g3) (one1_keep hy g) (Or.inr (Or.inr g3)) ew
    · exact go _ _ w (one1_keep hx g3) (one1_keep hy g) (Or.inl g5) ew
/-- a column that can be walked -/
def wcol (S : ZS) (nr c : Nat) : Prop := tms (aC S) nr c = 2 ∧ S.1 8 c = 0 ∧ ¬ S.1 9 c < 1 ∧ ¬ S.1 10 c < 0
theorem two_is {n : Nat} (h : n ≤ 10) : nI n = (2 : Int32) ↔ n = 2 := by
  show nI n = nI 2 ↔ n = 2
  exact nI_eq (by omega) (by omega)
theorem tms_le (A : Nat → Nat → Int) (nr c : Nat) : tms A nr c ≤ nr := cnt_le _ _
theorem x4_canBeWalked {nc nr c : Nat} {S : ZS} {Q : Int32 → ZS → Prop} (hC : zC S nc nr) (hc : c < nc) (q1 : wcol S nr c → Q 1 S) (q0 : ¬ wcol S nr c → Q 0 S) : X4_canBeWalked (nI c) S Q := by
  obtain ⟨h1, h2, h3, h4, h5, h6, h7, h8, h9, h10, h11⟩ := hC
  have hl := tms_le (aC S) nr c
  have hv : vp_in (nI c) 10 := vp_in_nI (by omega) (by omega)
  unfold X4_canBeWalked X4_canBeWalked_b53 X4_canBeWalked_b54
  refine x5_countTerms h4 h2 (by omega) ?_
  rw [two_is (by omega), nI_clamp (by omega)]
  exact ⟨fun g => ⟨hv, fun g2 => ⟨hv, fun g3 => ⟨Or.inl rfl, q0 (fun h => h.2.2.1 g3)⟩, fun g3 => ⟨hv, fun g4 => ⟨Or.inl rfl, q0 (fun h => h.2.2.2 g4)⟩, fun g4 => ⟨Or.inr rfl, q1 ⟨g, g2, g3, g4⟩⟩⟩⟩, fun g2 => ⟨Or.inl rfl, q0 (fun h => g2 h.2.1)⟩⟩, fun g => ⟨Or.inl rfl, q0 (fun h => g h.1)⟩⟩
def wy (S : ZS) (nc nr : Nat) (f : Nat → Int32) (L : Nat → Nat) : Prop := (∀ c, c < nc → wcol S nr c) ∧ (∀ r, r < nr → S.1 11 r = 1) ∧ two nr f L
theorem wcol_per {S T : ZS} {nr c : Nat} (hp : zPer S T) (hn : nr ≤ 8) : wcol T nr c ↔ wcol S nr c := by
  unfold wcol
  rw [(hp.1 8 rfl).1, (hp.1 9 rfl).1, (hp.1 10 rfl).1, tms_congr (A := aC T) (B := aC S) (fun r hr => aC_per hp (by omega))]
theorem wy_per {S T : ZS} {nc nr : Nat} {f : Nat → Int32} {L : Nat → Nat} (hp : zPer S T) (hn : nr ≤ 8) : wy T nc nr f L ↔ wy S nc nr f L := by
  unfold wy
  rw [(hp.1 11 rfl).1]
  exact and_congr ⟨fun h c hc => (wcol_per hp hn).mp (h c hc), fun h c hc => (wcol_per hp hn).mpr (h c hc)⟩ Iff.rfl
theorem x4_isWay {nc nr : Nat} {S : ZS} {Q : Int32 → ZS → Prop} (hC : zC S nc nr) (q0 : ∀ x T, zPer S T → fR (aC S) nr nc x → x ≠ -1 → Q 0 T) (q : ∀ T v L s, zPer S T → fR (aC S) nr nc (-1) → fnd S T nr nc L s → zbit v → (v = 1 ↔ wy S nc nr (fun r => T.1 12 r * T.1 23 r) L) → Q v T) : X4_isWay S Q := by
  unfold X4_isWay
  refine i4_findSigns hC (fun x T hp hx hf => ⟨fun ex => ?_, fun ex => ⟨Or.inl rfl, q0 x T hp hx ex⟩⟩)
  obtain ⟨L, s, hfnd⟩ := hf ex
  rw [ex] at hx
  have wp := wy_per (nc := nc) (f := fun r => T.1 12 r * T.1 23 r) (L := L) hp hC.2.1
  have hT := hC.per hp
  have h1 := hT.1
  have h2 := hT.2.1
  have h3 := hT.2.2.1
  have h4 := hT.2.2.2.1
  have fin : ∀ v : Int32, zbit v → (v = 1 ↔ wy T nc nr (fun r => T.1 12 r * T.1 23 r) L) → zbit v ∧ Q v T := fun v hv ev => ⟨hv, q T v L s hp hx hfnd hv (ev.trans wp)⟩
  refine zl_up nc (fun i U => U = T ∧ ∀ c, c < i → wcol T nr c) (by omega) (fun i U k hi hJ hk => ?_) T ⟨rfl, fun c hc => by omega⟩
  obtain ⟨rfl, hj⟩ := hJ
  show X4_isWay_B12 (nI i) U Q k
  unfold X4_isWay_B12 X4_isWay_b39 X4_isWay_b31
  rw [h3]
  refine ⟨fun z => ?_, fun z => ?_⟩
  · have := up_end (by omega) hi z
    subst this
    refine zl_up nr (fun r V => V = U ∧ ∀ p, p < r → U.1 11 p = 1) (by omega) (fun r V k2 hr hJ hk2 => ?_) U ⟨rfl, fun c hc => by omega⟩
    obtain ⟨rfl, hj2⟩ := hJ
    show X4_isWay_B41 (nI r) V Q k2
    unfold X4_isWay_B41 X4_isWay_b73 X4_isWay_b65
    rw [h4]
    refine ⟨fun z2 => ?_, fun z2 => ?_⟩
    · have := up_end (by omega) hr z2
      subst this
      refine x4_hasTwoEnds h4 h2 hfnd.1 hfnd.2.2.1.1 (fun v hv ev => fin v hv (ev.trans ⟨fun h => ⟨hj, hj2, h⟩, fun h => h.2.2⟩))
    · have hlt := up_on (by omega) hr z2
      rw [nI_clamp (by omega)]
      refine ⟨vp_in_nI (by omega) (by omega), fun g w ew => ?_, fun g => fin 0 (Or.inl rfl) (bit_no (fun h => g (h.2.1 r hlt)))⟩
      rw [nI_1] at ew
      subst ew
      refine hk2 hlt _ ⟨rfl, fun c hc => ?_⟩
      by_cases e : c = r
      · rw [e]; exact g
      · exact hj2 c (by omega)
  · have hlt := up_on (by omega) hi z
    refine x4_canBeWalked hT hlt (fun g => ⟨fun e => absurd e (by decide), fun _ w ew => ?_⟩) (fun g => ⟨fun _ => fin 0 (Or.inl rfl) (bit_no (fun h => g (h.1 i hlt))), fun e => absurd rfl e⟩)
    rw [nI_1] at ew
    subst ew
    refine hk hlt _ ⟨rfl, fun c hc => ?_⟩
    by_cases e : c = i
    · rw [e]; exact g
    · exact hj c (by omega)
/-- the reference -/
theorem x7_terms {c nr : Nat} {S : ZS} {Q : Int32 → ZS → Prop} (h6 : S.1 61 2 = nI nr) (h2 : nr ≤ 8) (hc : c < 10) (q : Q (nI (tms (aR S) nr c)) S) : X7_terms (nI c) S Q := by
  unfold X7_terms
  refine zl_up2 nr (fun i x T => T = S ∧ x = nI (tms (aR S) i c)) (by omega) (fun i x T k hi hJ hk => ?_) 0 S ⟨rfl, rfl⟩
  obtain ⟨rfl, rfl⟩ := hJ
  show X7_terms_B4 (nI c) _ (nI i) T Q k
  unfold X7_terms_B4 X7_terms_b35 X7_terms_b27
  rw [h6]
  refine ⟨fun z => ?_, fun z => ?_⟩
  · have := up_end (by omega) hi z
    subst this
    exact q
  · have hlt := up_on (by omega) hi z
    refine x7_coef (by omega) (by omega) ⟨fun g w ew y ey => ?_, fun g w ew y ey => ?_⟩
    · rw [nI_1] at ey
      subst ey ew
      rw [aR_0] at g
      exact hk hlt _ _ ⟨rfl, by unfold tms; rw [cnt_s, if_neg (by rw [decide_eq_true_eq]; exact fun w => w g)]; exact nI_add _ 0⟩
    · rw [nI_1] at ey
      subst ey ew
      rw [aR_0] at g
      exact hk hlt _ _ ⟨rfl, by unfold tms; rw [cnt_s, if_pos (decide_eq_true g)]; exact nI_add _ 1⟩
def lst (f : Nat → Int32) (v : Int32) (i : Nat) (x : Int32) : Prop := (x = -1 ∧ ∀ r, r < i → f r ≠ v) ∨ ∃ e, e < i ∧ x = nI e ∧ f e = v
theorem lst_keep {f : Nat → Int32} {v : Int32} {i : Nat} {x : Int32} (h : lst f v i x) (g : f i ≠ v) : lst f v (i + 1) x := by
  rcases h with ⟨e, h⟩ | ⟨e, he, ex, fe⟩
  · refine Or.inl ⟨e, fun r hr => ?_⟩
    by_cases w : r = i
    · rw [w]; exact g
    · exact h r (by omega)
  · exact Or.inr ⟨e, by omega, ex, fe⟩
theorem lst_new {f : Nat → Int32} {v : Int32} {i : Nat} (g : f i = v) : lst f v (i + 1) (nI i) := Or.inr ⟨i, by omega, rfl, g⟩
theorem cnt_or {p q r : Nat → Bool} {n : Nat} (h : ∀ i, i < n → p i = true → q i = true ∨ r i = true) : cnt p n ≤ cnt q n + cnt r n := by
  induction n with
  | zero => exact Nat.zero_le _
  | succ n ih =>
    have h1 := ih (fun i hi => h i (by omega))
    have h2 := h n (by omega)
    rw [cnt_s, cnt_s, cnt_s]
    by_cases e : p n = true
    · rcases h2 e with w | w
      · rw [if_pos e, if_pos w]; omega
      · rw [if_pos e, if_pos w]; omega
    · rw [if_neg e]; omega
theorem cnt_ab {p : Nat → Bool} {n a b : Nat} (h : ∀ i, i < n → p i = true → i = a ∨ i = b) : cnt p n ≤ 2 := by
  have h1 := cnt_or (q := fun i => decide (i = a)) (r := fun i => decide (i = b)) (fun i hi e => (h i hi e).elim (fun w => Or.inl (decide_eq_true w)) (fun w => Or.inr (decide_eq_true w)))
  have h2 := cnt_one (p := fun i => decide (i = a)) (n := n) (a := a) (fun i hi e => of_decide_eq_true e)
  have h3 := cnt_one (p := fun i => decide (i = b)) (n := n) (a := b) (fun i hi e => of_decide_eq_true e)
  omega
theorem two_cnt {nr : Nat} {f : Nat → Int32} {L : Nat → Nat} (h : two nr f L) : cnt (fun r => decide (f r ≠ 0)) nr = 2 := by
  obtain ⟨e, s, he, hs, fe, fs, hu, hL⟩ := h
  have h1 := cnt_ab (p := fun r => decide (f r ≠ 0)) (n := nr) (a := e) (b := s) (fun i hi w => hu i hi (of_decide_eq_true w))
  have h2 := cnt_two (p := fun r => decide (f r ≠ 0)) he hs (fun w => by rw [w, fs] at fe; exact absurd fe (by decide)) (decide_eq_true (by rw [fe]; decide)) (decide_eq_true (by rw [fs]; decide))
  omega
theorem x7_wcols {nc nr : Nat} {S : ZS} {Q : Int32 → ZS → Prop} {f : Nat → Int32} {L : Nat → Nat} {t x2 x3 : Int32} (hC : zC S nc nr) (h70 : ∀ r, r < nr → S.1 70 r = nI (L r)) (hL : ∀ r, r < nr → L r ≤ r) (ht : zbit t) (et : t = 1 ↔ ∀ r, r < nr → S.1 11 r = 1) (e2 : lst f 1 nr x2) (e3 : lst f (-1) nr x3) (q : ∀ v, zbit v → (v = 1 ↔ wy S nc nr f L) → Q v S) : X7_way_b125 t x2 x3 (nI (cnt (fun r => decide (f r ≠ 0)) nr)) S Q := by
  have hb := hC.bd
  obtain ⟨h1, h2, h3, h4, h5, h6, h7, h8, h9, h10, h11⟩ := hC
  have hcl := cnt_le (fun r => decide (f r ≠ 0)) nr
  have no : ¬ wy S nc nr f L → zbit (0 : Int32) ∧ Q 0 S := fun h => ⟨Or.inl rfl, q 0 (Or.inl rfl) (bit_no h)⟩
  unfold X7_way_b125
  refine zl_up2 nc (fun i y T => T = S ∧ zbit y ∧ (y = 1 ↔ (∀ r, r < nr → S.1 11 r = 1) ∧ ∀ c, c < i → wcol S nr c)) (by omega) (fun i y T k hi hJ hk => ?_) t S ⟨rfl, ht, et.trans ⟨fun h => ⟨h, fun c hc => by omega⟩, fun h => h.1⟩⟩
  obtain ⟨rfl, hz, hy⟩ := hJ
  show X7_way_B128 x2 x3 _ y (nI i) T Q k
  unfold X7_way_B128
  rw [h5]
  refine ⟨fun z => ?_, fun z => ?_⟩
  · have := up_end (by omega) hi z
    subst this
    unfold X7_way_b194 X7_way_b233 X7_way_b234
    rw [two_is (by omega)]
    refine ⟨fun g => no (fun h => bit_0 g hy ⟨h.2.1, h.1⟩), fun g => ⟨fun g2 => ⟨fun g3 => no (fun h => ?_), fun g3 => ⟨fun g4 => no (fun h => ?_), fun g4 => ?_⟩⟩, fun g2 => no (fun h => g2 (two_cnt h.2.2))⟩⟩
    · obtain ⟨e, s, he, hs, fe, fs, hu, hLL⟩ := h.2.2
      rcases e2 with ⟨_, w⟩ | ⟨a, ha, ea, _⟩
      · exact w e he fe
      · rw [g3] at ea; exact nI_m1 (by omega) ea.symm
    · obtain ⟨e, s, he, hs, fe, fs, hu, hLL⟩ := h.2.2
      rcases e3 with ⟨_, w⟩ | ⟨a, ha, ea, _⟩
      · exact w s hs fs
      · rw [g4] at ea; exact nI_m1 (by omega) ea.symm
    · have hy1 := hy.mp (bit_1 hz g)
      rcases e2 with ⟨w, _⟩ | ⟨a, ha, ea, fa⟩
      · exact absurd w g3
      · rcases e3 with ⟨w, _⟩ | ⟨b, hb2, eb, fb⟩
        · exact absurd w g4
        · subst ea eb
          have la := hL a ha
          have lb := hL b hb2
          have hab : a ≠ b := fun w => by rw [w, fb] at fa; exact absurd fa (by decide)
          rw [nI_clamp (by omega), nI_clamp (by omega), h70 a ha, h70 b hb2, nI_eq (by omega) (by omega)]
          refine ⟨vp_in_nI (by omega) (by omega), vp_in_nI (by omega) (by omega), fun e => ⟨Or.inr rfl, q 1 (Or.inr rfl) (bit_yes ⟨hy1.2, hy1.1, a, b, ha, hb2, fa, fb, fun r hr hne => ?_, e⟩)⟩, fun e => no (fun h => ?_)⟩
          · refine Classical.byContradiction (fun w => ?_)
            have h3' := cnt_three (p := fun r => decide (f r ≠ 0)) ha hb2 hr hab (fun v => w (Or.inl v)) (fun v => w (Or.inr v)) (decide_eq_true (by rw [fa]; decide)) (decide_eq_true (by rw [fb]; decide)) (decide_eq_true hne)
            omega
          · have h' := h.2.2
            obtain ⟨e', s', he', hs', fe', fs', hu', hLL⟩ := h.2.2
            rw [two_e h' he' ha fe' fa, two_s h' hs' hb2 fs' fb] at hLL
            exact e hLL
  · have hlt := up_on (by omega) hi z
    have hvi : vp_in (nI i) 10 := vp_in_nI (by omega) (by omega)
    have fin : ∀ v w : Int32, zbit v → (v = 1 ↔ (∀ r, r < nr → T.1 11 r = 1) ∧ ∀ c, c < i + 1 → wcol T nr c) → w = nI i + 1 → k (v, w, T) := by
      intro v w hv hv2 ew
      rw [nI_1] at ew
      subst ew
      exact hk hlt _ _ ⟨rfl, hv, hv2⟩
    have nn : ∀ w : Int32, ¬ ((∀ r, r < nr → T.1 11 r = 1) ∧ ∀ c, c < i + 1 → wcol T nr c) → w = nI i + 1 → k (0, w, T) := fun w h ew => fin 0 w (Or.inl rfl) (bit_no h) ew
    have nw : ∀ w : Int32, ¬ wcol T nr i → w = nI i + 1 → k (0, w, T) := fun w h ew => nn w (fun h2 => h (h2.2 i (by omega))) ew
    unfold X7_way_b186 X7_way_b187
    refine ⟨fun g w ew => nn w (fun h => bit_0 g hy ⟨h.1, fun c hc => h.2 c (by omega)⟩) ew, fun g => ?_⟩
    have hy1 := hy.mp (bit_1 hz g)
    have hl := tms_le (aC T) nr i
    refine x7_terms h6 h2 (by omega) ?_
    rw [tms_congr (A := aR T) (B := aC T) (fun r hr => (hb r i hr hlt).1), two_is (by omega), nI_clamp (by omega), (h7 i hlt).1, (h7 i hlt).2.1, (h7 i hlt).2.2.1]
    refine ⟨fun g2 => ⟨hvi, fun g3 => ⟨hvi, fun g4 w ew => nw w (fun h => h.2.2.1 g4) ew, fun g4 => ⟨hvi, fun g5 w ew => nw w (fun h => h.2.2.2 g5) ew, fun g5 w ew => fin 1 w (Or.inr rfl) (bit_yes ⟨hy1.1, fun c hc => ?_⟩) ew⟩⟩, fun g3 w ew => nw w (fun h => g3 h.2.1) ew⟩, fun g2 w ew => nw w (fun h => g2 h.1) ew⟩
    by_cases e : c = i
    · rw [e]; exact ⟨g2, g3, g4, g5⟩
    · exact hy1.2 c (by omega)
theorem x7_wrows {nc nr : Nat} {S : ZS} {Q : Int32 → ZS → Prop} {f : Nat → Int32} {L : Nat → Nat} (hC : zC S nc nr) (h70 : ∀ r, r < nr → S.1 70 r = nI (L r)) (hL : ∀ r, r < nr → L r ≤ r) (hf : ∀ r, r < nr → S.1 12 r * S.1 71 r = f r) (q : ∀ v, zbit v → (v = 1 ↔ wy S nc nr f L) → Q v S) : zl (X7_way_L31 Q) ((1 : Int32), (-1 : Int32), (-1 : Int32), (0 : Int32), (0 : Int32), S) := by
  have hC0 := hC
  obtain ⟨h1, h2, h3, h4, h5, h6, h7, h8, h9, h10, h11⟩ := hC
  refine zl_c (fun s => s.2.2.2.2.1) nr (fun i s => s.2.2.2.2.2 = S ∧ zbit s.1 ∧ (s.1 = 1 ↔ ∀ r, r < i → S.1 11 r = 1) ∧ lst f 1 i s.2.1 ∧ lst f (-1) i s.2.2.1 ∧ s.2.2.2.1 = nI (cnt (fun r => decide (f r ≠ 0)) i)) (by omega) (fun i s k hi ec hJ hk => ?_) _ rfl ⟨rfl, Or.inr rfl, bit_yes (fun r hr => by omega), Or.inl ⟨rfl, fun r hr => by omega⟩, Or.inl ⟨rfl, fun r hr => by omega⟩, rfl⟩
  obtain ⟨x1, x2, x3, x4, x5, T⟩ := s
  dsimp only at ec hJ
  obtain ⟨rfl, hz, hx, e2, e3, rfl⟩ := hJ
  subst ec
  show X7_way_B31 x1 x2 x3 _ (nI i) T Q k
  unfold X7_way_B31
  rw [h6]
  refine ⟨fun z => ?_, fun z => ?_⟩
  · have := up_end (by omega) hi z
    subst this
    exact x7_wcols hC0 h70 hL hz hx e2 e3 q
  · have hlt := up_on (by omega) hi z
    have hvi : vp_in (nI i) 8 := vp_in_nI (by omega) (by omega)
    rw [nI_clamp (by omega), (h8 i hlt).1, (h8 i hlt).2.1, hf i hlt]
    refine ⟨hvi, hvi, fun w ew => ?_⟩
    subst ew
    have stp : ∀ t : Int32, zbit t → (t = 1 ↔ ∀ r, r < i + 1 → T.1 11 r = 1) → X7_way_b77 x2 x3 (nI (cnt (fun r => decide (f r ≠ 0)) i)) (nI i) (f i) t T Q k := by
      intro t ht et
      have fin : ∀ a b c d : Int32, lst f 1 (i + 1) a → lst f (-1) (i + 1) b → c = nI (cnt (fun r => decide (f r ≠ 0)) (i + 1)) → d = nI i + 1 → k (t, a, b, c, d, T) := by
        intro a b c d ha hb hc ed
        rw [nI_1] at ed
        exact hk hlt _ ed ⟨rfl, ht, et, ha, hb, hc⟩
      have last : ∀ a b : Int32, lst f 1 (i + 1) a → lst f (-1) (i + 1) b → X7_way_b103 t a (nI (cnt (fun r => decide (f r ≠ 0)) i)) (nI i) (f i) b T Q k := by
        intro a b ha hb
        unfold X7_way_b103 X7_way_b116
        refine ⟨fun g c ec d ed => fin a b c d ha hb ?_ ed, fun g c ec d ed => fin a b c d ha hb ?_ ed⟩
        · rw [ec, cnt_s, if_neg (by rw [decide_eq_true_eq]; exact fun w => w g)]; exact nI_add _ 0
        · rw [ec, cnt_s, if_pos (decide_eq_true g)]; exact nI_add _ 1
      unfold X7_way_b77 X7_way_b90
      exact ⟨fun g => ⟨fun g2 => last _ _ (lst_new g) (lst_new g2), fun g2 => last _ _ (lst_new g) (lst_keep e3 g2)⟩, fun g => ⟨fun g2 => last _ _ (lst_keep e2 g) (lst_new g2), fun g2 => last _ _ (lst_keep e2 g) (lst_keep e3 g2)⟩⟩
    unfold X7_way_b76
    refine ⟨fun g => stp 0 (Or.inl rfl) (bit_no (fun h => bit_0 g hx (fun r hr => h r (by omega)))), fun g => ⟨hvi, fun g2 => stp 1 (Or.inr rfl) (bit_yes (fun r hr => ?_)), fun g2 => stp 0 (Or.inl rfl) (bit_no (fun h => g2 (h i (by omega))))⟩⟩
    by_cases e : r = i
    · rw [e]; exact g2
    · exact hx.mp (bit_1 hz g) r (by omega)
theorem k_15 {y1 y2 y3 : Int32} {S : ZS} {N : ZS → Prop} (h : Inv S) (hN : ∀ T, Inv T → N T) : lawc_15 y1 y2 y3 S N := by
  have hI := h
  obtain ⟨nc, nr, hC, hSol⟩ := h
  have h2 := hC.2.1
  unfold lawc_15 X6_way X7_way
  refine x4_isWay hC (fun x T hp hx hne => ⟨Or.inl rfl, fun U eU => ?_⟩) (fun T v L s hp hx hf hv ev => ⟨hv, fun U eU => ?_⟩)
  · have hp2 : zPer S U := by rw [eU]; exact hp.u61 (Or.inl rfl)
    exact i7_flowReason hC hp2 hx ⟨fun g => absurd g hne, fun _ => ⟨Or.inl rfl, fun _ => hN U (hI.per hp2), fun g => absurd rfl g⟩⟩
  · have hp2 : zPer S U := by rw [eU]; exact hp.u61 (Or.inl rfl)
    refine i7_flowReason hC hp2 hx ⟨fun _ => ?_, fun g => absurd rfl g⟩
    refine i7_findSigns hC hp2 hf.2.2.1 hf.2.2.2 (fun V hV v70 v71 => ?_)
    have hp3 : zPer S V := hp2.tr (hV.per rfl rfl (by decide) (by decide))
    refine x7_wrows (f := fun r => T.1 12 r * T.1 23 r) (hC.per hp3) v70 hf.2.2.1.1 (fun r hr => ?_) (fun w hw ew => ?_)
    · have e1 : V.1 71 r = T.1 23 r := by rw [i_eq, v71 r hr, hf.2.1 r hr]
      rw [e1, (hp3.1 12 rfl).1, (hp.1 12 rfl).1]
    · rw [wy_per hp3 h2] at ew
      exact ⟨fun _ => hN V (hI.per hp3), fun g => absurd (bit_eq hv hw ev ew) g⟩
