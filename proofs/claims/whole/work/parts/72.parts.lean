/-! parts(), part() -/
/-- L gives each row the least row of its part; C: the functions that are the same on joined rows -/
def zP (nr : Nat) (C : (Nat → Nat) → Prop) (L : Nat → Nat) : Prop := (∀ r, r < nr → L r ≤ r) ∧ C L ∧ ∀ f, C f → ∀ r, r < nr → f (L r) = f r
theorem zP.uniq {nr : Nat} {C : (Nat → Nat) → Prop} {L M : Nat → Nat} (h : zP nr C L) (g : zP nr C M) {r : Nat} (hr : r < nr) : L r = M r := by
  have a := h.2.2 M g.2.1 r hr
  have b := g.2.2 L h.2.1 r hr
  have la := h.1 r hr
  have lb := g.1 r hr
  have c := g.1 (L r) (by omega)
  have d := h.1 (M r) (by omega)
  omega
/-- the functions that are the same on the rows that one of the first columns joins -/
def cJ (t : Nat → Nat → Prop) (nr c : Nat) (f : Nat → Nat) : Prop := ∀ d, d < c → ∀ r s, r < nr → s < nr → t r d → t s d → f r = f s
def jn (L : Nat → Nat) (a b r : Nat) : Nat := if L r = max (L a) (L b) then min (L a) (L b) else L r
theorem zP.join {nr : Nat} {C D : (Nat → Nat) → Prop} {L : Nat → Nat} (h : zP nr C L) {a b : Nat} (ha : a < nr) (hb : b < nr) (hC : ∀ f g : Nat → Nat, C f → C (fun r => g (f r))) (hD : ∀ f, D f ↔ C f ∧ f a = f b) : zP nr D (jn L a b) := by
  have h1 := h.1
  refine ⟨fun r hr => ?_, ?_, fun f hf r hr => ?_⟩
  · have := h1 r hr
    unfold jn
    split <;> omega
  · rw [hD]
    refine ⟨hC L (fun x => if x = max (L a) (L b) then min (L a) (L b) else x) h.2.1, ?_⟩
    unfold jn
    split <;> split <;> omega
  · rw [hD] at hf
    obtain ⟨hf1, hf2⟩ := hf
    have ea := h.2.2 f hf1 a ha
    have eb := h.2.2 f hf1 b hb
    have er := h.2.2 f hf1 r hr
    unfold jn
    split
    · rename_i g
      rw [← er, g]
      rcases Nat.le_total (L a) (L b) with q | q
      · rw [Nat.min_eq_left q, Nat.max_eq_right q]; omega
      · rw [Nat.min_eq_right q, Nat.max_eq_left q]; omega
    · exact er
/-- all but two cells stay -/
def zQ2 (a b : Nat) (S T : ZS) : Prop := T.2 = S.2 ∧ ∀ n, n ≠ a → n ≠ b → T.1 n = S.1 n
theorem zQ2.rf {a b : Nat} (S : ZS) : zQ2 a b S S := ⟨rfl, fun _ _ _ => rfl⟩
theorem zQ2.tr {a b : Nat} {S T U : ZS} (h : zQ2 a b S T) (g : zQ2 a b T U) : zQ2 a b S U := ⟨g.1.trans h.1, fun n x y => (g.2 n x y).trans (h.2 n x y)⟩
theorem zQ2.ua {a b j : Nat} {v : Int32} {S T : ZS} (h : zQ2 a b S T) : zQ2 a b S (zu T a j v) := ⟨h.1, fun n x y => by rw [zu_ne x]; exact h.2 n x y⟩
theorem zQ2.ub {a b j : Nat} {v : Int32} {S T : ZS} (h : zQ2 a b S T) : zQ2 a b S (zu T b j v) := ⟨h.1, fun n x y => by rw [zu_ne y]; exact h.2 n x y⟩
theorem zQ2.per {a b : Nat} {S T : ZS} (h : zQ2 a b S T) (ha : zper a = false) (hb : zper b = false) (ha6 : a ≠ 61) (hb6 : b ≠ 61) : zPer S T := ⟨fun n hn => ⟨h.2 n (fun e => by rw [e, ha] at hn; cases hn) (fun e => by rw [e, hb] at hn; cases hn), by rw [h.1]⟩, fun j _ _ => by rw [h.2 61 (Ne.symm ha6) (Ne.symm hb6)]⟩
theorem nI_min {a b : Nat} (ha : a < 2 ^ 31) (hb : b < 2 ^ 31) : (if nI b < nI a then nI b else nI a) = nI (min a b) := by
  have e := nI_ltI hb ha
  split <;> rename_i g <;> rw [e] at g
  · rw [Nat.min_eq_right (by omega)]
  · rw [Nat.min_eq_left (by omega)]
theorem nI_max {a b : Nat} (ha : a < 2 ^ 31) (hb : b < 2 ^ 31) : (if nI a < nI b then nI b else nI a) = nI (max a b) := by
  have e := nI_ltI ha hb
  split <;> rename_i g <;> rw [e] at g
  · rw [Nat.max_eq_right (by omega)]
  · rw [Nat.max_eq_left (by omega)]
theorem x4_join {a b nr : Nat} {t : Int32} {S : ZS} {Q : ZS → Prop} {L : Nat → Nat} (h4 : S.1 1 1 = nI nr) (h2 : nr ≤ 8) (ha : a < nr) (hb : b < nr) (hL : ∀ r, r < nr → S.1 22 r = nI (L r)) (hl : ∀ r, r < nr → L r ≤ r)
    (q : ∀ T, zQ2 22 23 S T → (∀ r, r < nr → T.1 22 r = nI (jn L a b r)) → (∀ r, r < nr → T.1 23 r = if L a ≠ L b ∧ L r = max (L a) (L b) then S.1 23 r * t else S.1 23 r) → Q T) : X4_join (nI a) (nI b) t S Q := by
  have la := hl a ha
  have lb := hl b hb
  unfold X4_join
  rw [nI_clamp (by omega), nI_clamp (by omega), hL a ha, hL b hb, nI_min (by omega) (by omega), nI_max (by omega) (by omega)]
  refine ⟨vp_in_nI (by omega) (by omega), vp_in_nI (by omega) (by omega), fun x ex => ⟨vp_in_nI (by omega) (by omega), vp_in_nI (by omega) (by omega), fun y ey => ⟨fun e => ?_, fun e => ?_⟩⟩⟩
  · rw [ex, ey, nI_eq (by omega) (by omega)] at e
    refine q S (zQ2.rf S) (fun r hr => ?_) (fun r hr => ?_)
    · rw [hL r hr]
      unfold jn
      split
      · rename_i g; rw [g, e]
      · rfl
    · rw [if_neg (by omega)]
  · rw [ex, ey, nI_eq (by omega) (by omega)] at e
    subst ex ey
    refine zl_up nr (fun i T => zQ2 22 23 S T ∧ (∀ r, r < nr → T.1 22 r = if r < i then nI (jn L a b r) else nI (L r)) ∧ ∀ r, r < nr → T.1 23 r = if r < i ∧ L r = max (L a) (L b) then S.1 23 r * t else S.1 23 r) (by omega) (fun i T k hi hJ hk => ?_) S ⟨zQ2.rf S, fun r hr => by rw [if_neg (by omega)]; exact hL r hr, fun r hr => by rw [if_neg (by omega)]⟩
    obtain ⟨hx, hj1, hj2⟩ := hJ
    show X4_join_B45 t _ _ (nI i) T Q k
    unfold X4_join_B45 X4_join_b95 X4_join_b89
    rw [hx.2 1 (by decide) (by decide), h4]
    refine ⟨fun z => ?_, fun z => ?_⟩
    · have := up_end (by omega) hi z
      subst this
      refine q T hx (fun r hr => ?_) (fun r hr => ?_)
      · rw [hj1 r hr, if_pos hr]
      · rw [hj2 r hr]
        by_cases g : L r = max (L a) (L b)
        · rw [if_pos ⟨hr, g⟩, if_pos ⟨by omega, g⟩]
        · rw [if_neg (fun w => g w.2), if_neg (fun w => g w.2)]
    · have hlt := up_on (by omega) hi z
      have hv : vp_in (nI i) 8 := vp_in_nI (by omega) (by omega)
      have li := hl i hlt
      rw [nI_clamp (by omega), hj1 i hlt, if_neg (by omega), nI_eq (by omega) (by omega)]
      refine ⟨hv, fun g => ⟨hv, fun U eU => ⟨hv, hv, fun V eV w ew => ?_⟩⟩, fun g w ew => ?_⟩
      · rw [nI_1] at ew
        subst ew
        have e23 : U.1 23 = T.1 23 := by rw [eU, zu_ne (by decide)]
        rw [e23, hj2 i hlt, if_neg (by omega)] at eV
        refine hk hlt V ⟨by rw [eV, eU]; exact hx.ua.ub, fun r hr => ?_, fun r hr => ?_⟩
        · rw [eV, zu_ne (by decide), eU, zu_at]
          by_cases e2 : r = i
          · subst e2
            rw [if_pos ⟨rfl, rfl⟩, if_pos (by omega)]
            unfold jn
            rw [if_pos g]
          · rw [if_neg (by omega), hj1 r hr]
            by_cases e3 : r < i
            · rw [if_pos e3, if_pos (by omega)]
            · rw [if_neg e3, if_neg (by omega)]
        · rw [eV, zu_at]
          by_cases e2 : r = i
          · subst e2
            rw [if_pos ⟨rfl, rfl⟩, if_pos ⟨by omega, g⟩]
          · rw [if_neg (by omega), e23, hj2 r hr]
            by_cases e3 : r < i ∧ L r = max (L a) (L b)
            · rw [if_pos e3, if_pos (by omega)]
            · rw [if_neg e3, if_neg (by omega)]
      · rw [nI_1] at ew
        subst ew
        refine hk hlt T ⟨hx, fun r hr => ?_, fun r hr => ?_⟩
        · rw [hj1 r hr]
          by_cases e2 : r = i
          · subst e2
            rw [if_neg (by omega), if_pos (by omega)]
            unfold jn
            rw [if_neg g]
          · by_cases e3 : r < i
            · rw [if_pos e3, if_pos (by omega)]
            · rw [if_neg e3, if_neg (by omega)]
        · rw [hj2 r hr]
          by_cases e2 : r = i
          · subst e2
            rw [if_neg (by omega), if_neg (by omega)]
          · by_cases e3 : r < i ∧ L r = max (L a) (L b)
            · rw [if_pos e3, if_pos (by omega)]
            · rw [if_neg e3, if_neg (by omega)]
/-- the first row from b on that has a term, or -1 -/
def nxt (t : Nat → Prop) (nr b : Nat) (x : Int32) : Prop := (∃ r, b ≤ r ∧ r < nr ∧ t r ∧ (∀ s, b ≤ s → s < r → ¬ t s) ∧ x = nI r) ∨ ((∀ s, b ≤ s → s < nr → ¬ t s) ∧ x = -1)
theorem zl_from {τ : Type} {b : Int32 × τ → (Int32 × τ → Prop) → Prop} (m n : Nat) (J : Nat → τ → Prop) (hn : n < 2 ^ 31) (hs : ∀ (i : Nat) (t : τ) (k : Int32 × τ → Prop), m ≤ i → i ≤ n → J i t → (i < n → ∀ t', J (i + 1) t' → k (nI (i + 1), t')) → b (nI i, t) k) (t0 : τ) (hm : m ≤ n) (h0 : J m t0) : zl b (nI m, t0) := by
  refine zl_of (fun x => ∃ i, m ≤ i ∧ i ≤ n ∧ x.1 = nI i ∧ J i x.2) (fun x => n - x.1.toNatClampNeg) (fun x k hx hk => ?_) _ ⟨m, Nat.le_refl _, hm, rfl, h0⟩
  obtain ⟨x1, x2⟩ := x
  obtain ⟨i, hmi, hi, e, hJ⟩ := hx
  dsimp only at e hJ
  subst e
  refine hs i x2 k hmi hi hJ (fun hlt t' ht' => hk _ ⟨i + 1, by omega, hlt, rfl, ht'⟩ ?_)
  show n - (nI (i + 1)).toNatClampNeg < n - (nI i).toNatClampNeg
  rw [nI_clamp (by omega), nI_clamp (by omega)]
  omega
theorem x5_nextTerm {c b nr : Nat} {S : ZS} {Q : Int32 → ZS → Prop} (h4 : S.1 1 1 = nI nr) (h2 : nr ≤ 8) (hc : c < 10) (hb : b ≤ nr) (q : ∀ x, nxt (fun r => S.1 (14 + r) c ≠ 0) nr b x → Q x S) : X5_nextTerm (nI c) (nI b) S Q := by
  unfold X5_nextTerm
  refine zl_from b nr (fun i T => T = S ∧ ∀ s, b ≤ s → s < i → S.1 (14 + s) c = 0) (by omega) (fun i T k hbi hi hJ hk => ?_) S hb ⟨rfl, fun s _ _ => by omega⟩
  obtain ⟨rfl, hz⟩ := hJ
  show X5_nextTerm_B2 (nI c) (nI i) T Q k
  unfold X5_nextTerm_B2 X5_nextTerm_b29 X5_nextTerm_b21
  rw [h4, nI_clamp (by omega), nI_clamp (by omega)]
  refine ⟨fun z => ?_, fun z => ?_⟩
  · have := up_end (by omega) hi z
    subst this
    exact q _ (Or.inr ⟨fun s a b w => w (hz s a b), rfl⟩)
  · have hlt := up_on (by omega) hi z
    refine ⟨vp_in_nI (by omega) (by omega), vp_in_nI (by omega) (by omega), fun g w ew => ?_, fun g => ?_⟩
    · rw [nI_1] at ew
      subst ew
      refine hk hlt T ⟨rfl, fun s a b => ?_⟩
      by_cases e : s = i
      · subst e; exact g
      · exact hz s a (by omega)
    · exact q _ (Or.inl ⟨i, hbi, hlt, g, fun s a b w => w (hz s a b), rfl⟩)
