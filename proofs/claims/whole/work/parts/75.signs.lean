/-! signs: the mathematics of flow() and sign() -/
def sI (g : Nat → Int) : Nat → Int
  | 0 => 0
  | n + 1 => sI g n + g n
theorem sI_s (g : Nat → Int) (n : Nat) : sI g (n + 1) = sI g n + g n := rfl
theorem sI_congr {g h : Nat → Int} {n : Nat} (e : ∀ r, r < n → g r = h r) : sI g n = sI h n := by
  induction n with
  | zero => rfl
  | succ n ih => rw [sI_s, sI_s, ih (fun r hr => e r (by omega)), e n (by omega)]
theorem sI_mul (t : Int) (g : Nat → Int) (n : Nat) : sI (fun r => t * g r) n = t * sI g n := by
  induction n with
  | zero => simp [sI]
  | succ n ih => rw [sI_s, sI_s, ih, Int.mul_add]
theorem sI_add (g h : Nat → Int) (n : Nat) : sI (fun r => g r + h r) n = sI g n + sI h n := by
  induction n with
  | zero => simp [sI]
  | succ n ih => rw [sI_s, sI_s, sI_s, ih]; omega
theorem sI_0 (n : Nat) : sI (fun _ => 0) n = 0 := by
  induction n with
  | zero => rfl
  | succ n ih => rw [sI_s, ih]; rfl
theorem sI_two {g : Nat → Int} {n a b : Nat} (hab : a ≠ b) (h : ∀ r, r < n → r ≠ a → r ≠ b → g r = 0) : sI g n = (if a < n then g a else 0) + (if b < n then g b else 0) := by
  induction n with
  | zero => simp [sI]
  | succ n ih =>
    rw [sI_s, ih (fun r hr => h r (by omega))]
    by_cases ea : n = a
    · subst ea
      rw [if_neg (show ¬ n < n by omega), if_pos (show n < n + 1 by omega)]
      by_cases g1 : b < n
      · rw [if_pos g1, if_pos (by omega)]; omega
      · rw [if_neg g1, if_neg (by omega)]; omega
    · by_cases eb : n = b
      · subst eb
        rw [if_neg (show ¬ n < n by omega), if_pos (show n < n + 1 by omega)]
        by_cases g1 : a < n
        · rw [if_pos g1, if_pos (by omega)]; omega
        · rw [if_neg g1, if_neg (by omega)]; omega
      · rw [h n (by omega) ea eb]
        have e1 : (if a < n + 1 then g a else 0) = (if a < n then g a else 0) := by
          by_cases g1 : a < n
          · rw [if_pos g1, if_pos (by omega)]
          · rw [if_neg g1, if_neg (by omega)]
        have e2 : (if b < n + 1 then g b else 0) = (if b < n then g b else 0) := by
          by_cases g1 : b < n
          · rw [if_pos g1, if_pos (by omega)]
          · rw [if_neg g1, if_neg (by omega)]
        rw [e1, e2]; omega
theorem cnt_one {p : Nat → Bool} {n a : Nat} (h : ∀ i, i < n → p i = true → i = a) : cnt p n ≤ 1 := by
  have key : cnt p n ≤ if a < n then 1 else 0 := by
    induction n with
    | zero => simp [cnt]
    | succ n ih =>
      have := ih (fun i hi => h i (by omega))
      rw [cnt_s]
      by_cases g : p n = true
      · have e := h n (by omega) g
        rw [if_neg (by omega)] at this
        rw [if_pos g, if_pos (by omega)]; omega
      · rw [if_neg g]
        by_cases g1 : a < n
        · rw [if_pos g1] at this; rw [if_pos (by omega)]; omega
        · rw [if_neg g1] at this; omega
  split at key <;> omega
theorem cnt_z {p : Nat → Bool} {n : Nat} (h : ∀ i, i < n → p i = false) : cnt p n = 0 := by
  induction n with
  | zero => rfl
  | succ n ih => rw [cnt_s, ih (fun i hi => h i (by omega)), h n (by omega)]; rfl
theorem cnt_two {p : Nat → Bool} {n a b : Nat} (ha : a < n) (hb : b < n) (hab : a ≠ b) (pa : p a = true) (pb : p b = true) : 2 ≤ cnt p n := by
  have h1 := cnt_lt (p := fun _ => false) (q := fun i => decide (i = a)) (n := n) (fun _ _ g => by cases g) ha (decide_eq_true rfl) rfl
  have h2 := cnt_lt (p := fun i => decide (i = a)) (q := p) (n := n) (fun i _ g => by rw [decide_eq_true_eq] at g; rw [g]; exact pa) hb pb (decide_eq_false (fun e => hab e.symm))
  omega
theorem cnt_three {p : Nat → Bool} {n a b c : Nat} (ha : a < n) (hb : b < n) (hc : c < n) (hab : a ≠ b) (hca : c ≠ a) (hcb : c ≠ b) (pa : p a = true) (pb : p b = true) (pc : p c = true) : 3 ≤ cnt p n := by
  have h1 := cnt_two (p := fun i => decide (i = a ∨ i = b)) ha hb hab (decide_eq_true (Or.inl rfl)) (decide_eq_true (Or.inr rfl))
  have h2 := cnt_lt (p := fun i => decide (i = a ∨ i = b)) (q := p) (n := n) (fun i _ g => by
    rw [decide_eq_true_eq] at g
    rcases g with g | g
    · rw [g]; exact pa
    · rw [g]; exact pb) hc pc (decide_eq_false (fun e => e.elim hca hcb))
  omega
/-- how many terms a column has -/
def tms (A : Nat → Nat → Int) (nr c : Nat) : Nat := cnt (fun r => decide (A r c ≠ 0)) nr
def pln (A : Nat → Nat → Int) (nr c : Nat) : Prop := (∀ r, r < nr → -1 ≤ A r c ∧ A r c ≤ 1) ∧ tms A nr c ≤ 2
def sgn (nr : Nat) (f : Nat → Int) : Prop := ∀ r, r < nr → f r = 1 ∨ f r = -1
/-- signs do for one column; for the first c columns -/
def sD (A : Nat → Nat → Int) (nr c : Nat) (f : Nat → Int) : Prop := tms A nr c < 2 ∨ sI (fun r => A r c * f r) nr = 0
def sDs (A : Nat → Nat → Int) (nr c : Nat) (f : Nat → Int) : Prop := ∀ d, d < c → sD A nr d f
def sEx (A : Nat → Nat → Int) (nr c : Nat) : Prop := ∃ f, sgn nr f ∧ sDs A nr c f
theorem sDs_s {A : Nat → Nat → Int} {nr c : Nat} {f : Nat → Int} : sDs A nr (c + 1) f ↔ sDs A nr c f ∧ sD A nr c f := by
  refine ⟨fun h => ⟨fun d hd => h d (by omega), h c (by omega)⟩, fun h d hd => ?_⟩
  by_cases e : d = c
  · rw [e]; exact h.2
  · exact h.1 d (by omega)
theorem sEx_le {A : Nat → Nat → Int} {nr c d : Nat} (h : sEx A nr c) (hd : d ≤ c) : sEx A nr d := by
  obtain ⟨f, h1, h2⟩ := h
  exact ⟨f, h1, fun e he => h2 e (by omega)⟩
/-- the signs that the parts' least rows fix -/
def sG (A : Nat → Nat → Int) (nr c : Nat) (L : Nat → Nat) (s : Nat → Int) : Prop := sgn nr s ∧ (∀ r, r < nr → s (L r) = 1) ∧ sDs A nr c s ∧ ∀ f, sgn nr f → sDs A nr c f → ∀ r, r < nr → f r = s r * f (L r)
def tr (A : Nat → Nat → Int) (r c : Nat) : Prop := A r c ≠ 0
/-- a column with fewer than two terms changes nothing -/
theorem lone {A : Nat → Nat → Int} {nr c : Nat} {L : Nat → Nat} {s : Nat → Int} (ht : tms A nr c < 2) (hP : zP nr (cJ (tr A) nr c) L) (hG : sG A nr c L s) : zP nr (cJ (tr A) nr (c + 1)) L ∧ sG A nr (c + 1) L s := by
  have e1 : ∀ f, cJ (tr A) nr c f ↔ cJ (tr A) nr (c + 1) f := by
    refine fun f => ⟨fun h d hd r q hr hq a b => ?_, fun h d hd => h d (by omega)⟩
    by_cases e : d = c
    · subst e
      by_cases e2 : r = q
      · rw [e2]
      · have := cnt_two (p := fun r => decide (A r d ≠ 0)) hr hq e2 (decide_eq_true a) (decide_eq_true b)
        unfold tms at ht
        omega
    · exact h d (by omega) r q hr hq a b
  have e2 : ∀ f, sDs A nr (c + 1) f ↔ sDs A nr c f := fun f => ⟨fun h => (sDs_s.mp h).1, fun h => sDs_s.mpr ⟨h, Or.inl ht⟩⟩
  exact ⟨hP.congr e1, hG.1, hG.2.1, (e2 s).mpr hG.2.2.1, fun f h1 h2 => hG.2.2.2 f h1 ((e2 f).mp h2)⟩
/-- what a column with two terms says -/
theorem pair {A : Nat → Nat → Int} {nr c a b : Nat} (hp : pln A nr c) (ha : a < nr) (hb : b < nr) (hab : a ≠ b) (ta : A a c ≠ 0) (tb : A b c ≠ 0) : (∀ r, r < nr → A r c ≠ 0 → r = a ∨ r = b) ∧ (∀ f : Nat → Int, sD A nr c f ↔ A a c * f a + A b c * f b = 0) ∧ (∀ f, cJ (tr A) nr (c + 1) f ↔ cJ (tr A) nr c f ∧ f a = f b) := by
  have ht : ∀ r, r < nr → A r c ≠ 0 → r = a ∨ r = b := fun r hr g => by
    refine Classical.byContradiction (fun no => ?_)
    have := cnt_three (p := fun r => decide (A r c ≠ 0)) ha hb hr hab (fun e => no (Or.inl e)) (fun e => no (Or.inr e)) (decide_eq_true ta) (decide_eq_true tb) (decide_eq_true g)
    have h2 := hp.2
    unfold tms at h2
    omega
  have h2 := cnt_two (p := fun r => decide (A r c ≠ 0)) ha hb hab (decide_eq_true ta) (decide_eq_true tb)
  refine ⟨ht, fun f => ?_, fun f => ⟨fun h => ⟨fun d hd => h d (by omega), h c (by omega) a b ha hb ta tb⟩, fun h d hd r q hr hq x y => ?_⟩⟩
  · have e : sI (fun r => A r c * f r) nr = A a c * f a + A b c * f b := by
      rw [sI_two (a := a) (b := b) hab (fun r hr n1 n2 => ?_), if_pos ha, if_pos hb]
      have : A r c = 0 := Classical.byContradiction (fun g => (ht r hr g).elim n1 n2)
      rw [this, Int.zero_mul]
    unfold sD
    rw [e]
    refine ⟨fun h => h.elim (fun g => ?_) id, Or.inr⟩
    unfold tms at g
    omega
  · by_cases e : d = c
    · subst e
      rcases ht r hr x with e1 | e1 <;> rcases ht q hq y with e2 | e2
      · rw [e1, e2]
      · rw [e1, e2]; exact h.2
      · rw [e1, e2]; exact h.2.symm
      · rw [e1, e2]
    · exact h.1 d (by omega) r q hr hq x y
theorem pm_mul {x y : Int} (hx : x = 1 ∨ x = -1) (hy : y = 1 ∨ y = -1) : x * y = 1 ∨ x * y = -1 := by
  rcases hx with rfl | rfl <;> rcases hy with rfl | rfl <;> simp
theorem unit_pm {x : Int} (h0 : x ≠ 0) (h1 : -1 ≤ x ∧ x ≤ 1) : x = 1 ∨ x = -1 := by omega
/-- two rows of one part: it stays as it was, or there are no signs -/
theorem same_ok {A : Nat → Nat → Int} {nr c a b : Nat} {L : Nat → Nat} {s : Nat → Int} (hp : pln A nr c) (ha : a < nr) (hb : b < nr) (hab : a ≠ b) (ta : A a c ≠ 0) (tb : A b c ≠ 0) (hP : zP nr (cJ (tr A) nr c) L) (hG : sG A nr c L s) (hL : L a = L b) (hs : s a * A a c + s b * A b c = 0) : zP nr (cJ (tr A) nr (c + 1)) L ∧ sG A nr (c + 1) L s := by
  obtain ⟨p1, p2, p3⟩ := pair hp ha hb hab ta tb
  refine ⟨⟨hP.1, (p3 L).mpr ⟨hP.2.1, hL⟩, fun f hf => hP.2.2 f ((p3 f).mp hf).1⟩, hG.1, hG.2.1, sDs_s.mpr ⟨hG.2.2.1, (p2 s).mpr ?_⟩, fun f h1 h2 => hG.2.2.2 f h1 (sDs_s.mp h2).1⟩
  rw [Int.mul_comm (A a c), Int.mul_comm (A b c)]
  exact hs
theorem same_no {A : Nat → Nat → Int} {nr c a b : Nat} {L : Nat → Nat} {s : Nat → Int} (hp : pln A nr c) (ha : a < nr) (hb : b < nr) (hab : a ≠ b) (ta : A a c ≠ 0) (tb : A b c ≠ 0) (hP : zP nr (cJ (tr A) nr c) L) (hG : sG A nr c L s) (hL : L a = L b) (hs : ¬ s a * A a c + s b * A b c = 0) : sEx A nr c ∧ ¬ sEx A nr (c + 1) := by
  obtain ⟨p1, p2, p3⟩ := pair hp ha hb hab ta tb
  refine ⟨⟨s, hG.1, hG.2.2.1⟩, fun ⟨f, f1, f2⟩ => hs ?_⟩
  obtain ⟨g1, g2⟩ := sDs_s.mp f2
  have e := (p2 f).mp g2
  have ea := hG.2.2.2 f f1 g1 a ha
  have eb := hG.2.2.2 f f1 g1 b hb
  have la := hP.1 a ha
  rw [ea, eb, ← hL] at e
  rcases f1 (L a) (by omega) with q | q
  · rw [q, Int.mul_one, Int.mul_one] at e
    rw [Int.mul_comm (s a), Int.mul_comm (s b)]
    exact e
  · rw [q] at e
    rw [Int.mul_comm (s a), Int.mul_comm (s b)]
    have x1 : A a c * (s a * -1) = -(A a c * s a) := by rw [Int.mul_neg_one, Int.mul_neg]
    have x2 : A b c * (s b * -1) = -(A b c * s b) := by rw [Int.mul_neg_one, Int.mul_neg]
    rw [x1, x2] at e
    omega
/-- two rows of two parts: they are joined, and the part with the greater least row turns -/
def st (L : Nat → Nat) (s : Nat → Int) (a b : Nat) (t : Int) (r : Nat) : Int := if L a ≠ L b ∧ L r = max (L a) (L b) then s r * t else s r
theorem two_ok {A : Nat → Nat → Int} {nr c a b : Nat} {L : Nat → Nat} {s : Nat → Int} {t : Int} (hp : pln A nr c) (ha : a < nr) (hb : b < nr) (hab : a ≠ b) (ta : A a c ≠ 0) (tb : A b c ≠ 0) (hP : zP nr (cJ (tr A) nr c) L) (hG : sG A nr c L s) (hL : L a ≠ L b) (h1 : s a * A a c + s b * A b c = 0 → t = 1) (h2 : ¬ s a * A a c + s b * A b c = 0 → t = -1) : zP nr (cJ (tr A) nr (c + 1)) (jn L a b) ∧ sG A nr (c + 1) (jn L a b) (st L s a b t) := by
  obtain ⟨p1, p2, p3⟩ := pair hp ha hb hab ta tb
  have la := hP.1 a ha
  have lb := hP.1 b hb
  have ht : t = 1 ∨ t = -1 := (Classical.em _).elim (fun g => Or.inl (h1 g)) (fun g => Or.inr (h2 g))
  have idem : ∀ r, r < nr → L (L r) = L r := fun r hr => hP.2.2 L hP.2.1 r hr
  have ua := unit_pm ta (hp.1 a ha)
  have ub := unit_pm tb (hp.1 b hb)
  have sa := hG.1 a ha
  have sb := hG.1 b hb
  have hmx : (max (L a) (L b) = L a ∧ min (L a) (L b) = L b) ∨ (max (L a) (L b) = L b ∧ min (L a) (L b) = L a) := by omega
  refine ⟨hP.join ha hb (fun f g hf d hd r q hr hq x y => congrArg g (hf d hd r q hr hq x y)) p3, fun r hr => ?_, fun r hr => ?_, sDs_s.mpr ⟨fun d hd => ?_, (p2 _).mpr ?_⟩, fun f f1 f2 r hr => ?_⟩
  · unfold st
    split
    · exact pm_mul (hG.1 r hr) ht
    · exact hG.1 r hr
  · unfold jn st
    by_cases g : L r = max (L a) (L b)
    · rw [if_pos g]
      rcases hmx with ⟨m1, m2⟩ | ⟨m1, m2⟩
      · rw [m2, idem b hb, m1, if_neg (by omega)]; exact hG.2.1 b hb
      · rw [m2, idem a ha, m1, if_neg (by omega)]; exact hG.2.1 a ha
    · rw [if_neg g, idem r hr, if_neg (by omega)]; exact hG.2.1 r hr
  · rcases hG.2.2.1 d hd with g | g
    · exact Or.inl g
    · by_cases ex : ∃ p, p < nr ∧ A p d ≠ 0
      · obtain ⟨p, hp1, hp2⟩ := ex
        have hall : ∀ r, r < nr → A r d ≠ 0 → L r = L p := fun r hr x => hP.2.1 d hd r p hr hp1 x hp2
        right
        by_cases gp : L p = max (L a) (L b)
        · have : sI (fun r => A r d * st L s a b t r) nr = sI (fun r => t * (A r d * s r)) nr := sI_congr (fun r hr => by
            by_cases z : A r d = 0
            · rw [z, Int.zero_mul, Int.zero_mul, Int.mul_zero]
            · unfold st
              rw [if_pos ⟨hL, by rw [hall r hr z]; exact gp⟩, ← Int.mul_assoc, Int.mul_comm])
          rw [this, sI_mul, g, Int.mul_zero]
        · have : sI (fun r => A r d * st L s a b t r) nr = sI (fun r => A r d * s r) nr := sI_congr (fun r hr => by
            by_cases z : A r d = 0
            · rw [z, Int.zero_mul, Int.zero_mul]
            · unfold st
              rw [if_neg (fun w => gp (by rw [← hall r hr z]; exact w.2))])
          rw [this, g]
      · left
        have : tms A nr d = 0 := cnt_z (fun i hi => decide_eq_false (fun w => ex ⟨i, hi, w⟩))
        omega
  · unfold st
    rcases hmx with ⟨m1, m2⟩ | ⟨m1, m2⟩
    · rw [if_pos ⟨hL, m1.symm⟩, if_neg (by omega)]
      rcases ua with e1 | e1 <;> rcases ub with e2 | e2 <;> rcases sa with e3 | e3 <;> rcases sb with e4 | e4 <;> rw [e1, e2, e3, e4] at h1 h2 <;> rw [e1, e2, e3, e4] <;> first | (rw [h1 (by decide)]; decide) | (rw [h2 (by decide)]; decide)
    · rw [if_neg (by omega), if_pos ⟨hL, m1.symm⟩]
      rcases ua with e1 | e1 <;> rcases ub with e2 | e2 <;> rcases sa with e3 | e3 <;> rcases sb with e4 | e4 <;> rw [e1, e2, e3, e4] at h1 h2 <;> rw [e1, e2, e3, e4] <;> first | (rw [h1 (by decide)]; decide) | (rw [h2 (by decide)]; decide)
  · obtain ⟨g1, g2⟩ := sDs_s.mp f2
    have e := (p2 f).mp g2
    have ea := hG.2.2.2 f f1 g1 a ha
    have eb := hG.2.2.2 f f1 g1 b hb
    have er := hG.2.2.2 f f1 g1 r hr
    have fa := f1 (L a) (by omega)
    have fb := f1 (L b) (by omega)
    unfold jn st
    by_cases g : L r = max (L a) (L b)
    · rw [if_pos g, if_pos ⟨hL, g⟩, er, g]
      rw [ea, eb] at e
      have key : f (max (L a) (L b)) = t * f (min (L a) (L b)) := by
        rcases hmx with ⟨m1, m2⟩ | ⟨m1, m2⟩ <;> rw [m1, m2] <;> rcases ua with e1 | e1 <;> rcases ub with e2 | e2 <;> rcases sa with e3 | e3 <;> rcases sb with e4 | e4 <;> rw [e1, e2, e3, e4] at h1 h2 e <;> rcases fa with e5 | e5 <;> rcases fb with e6 | e6 <;> rw [e5, e6] at e ⊢ <;> first | (exact absurd e (by decide)) | (rw [h1 (by decide)]; decide) | (rw [h2 (by decide)]; decide)
      rw [key, Int.mul_assoc]
    · rw [if_neg g, if_neg (fun w => g w.2), er]
/-- what flow() answers -/
def fR (A : Nat → Nat → Int) (nr nc : Nat) (x : Int32) : Prop :=
  (∃ c, c < nc ∧ ¬ pln A nr c ∧ (∀ d, d < c → pln A nr d) ∧ x = nI c) ∨ ((∀ c, c < nc → pln A nr c) ∧ ((∃ c, c < nc ∧ sEx A nr c ∧ ¬ sEx A nr (c + 1) ∧ x = nI c) ∨ (sEx A nr nc ∧ x = -1)))
theorem fR.uniq {A : Nat → Nat → Int} {nr nc : Nat} {x y : Int32} (h : fR A nr nc x) (g : fR A nr nc y) : x = y := by
  rcases h with ⟨c, a1, a2, a3, a4⟩ | ⟨a1, h⟩ <;> rcases g with ⟨d, b1, b2, b3, b4⟩ | ⟨b1, g⟩
  · rcases Nat.lt_trichotomy c d with q | q | q
    · exact absurd (b3 c q) a2
    · rw [a4, b4, q]
    · exact absurd (a3 d q) b2
  · exact absurd (b1 c a1) a2
  · exact absurd (a1 d b1) b2
  · rcases h with ⟨c, c1, c2, c3, c4⟩ | ⟨c1, c2⟩ <;> rcases g with ⟨d, d1, d2, d3, d4⟩ | ⟨d1, d2⟩
    · rcases Nat.lt_trichotomy c d with q | q | q
      · exact absurd (sEx_le d2 q) c3
      · rw [c4, d4, q]
      · exact absurd (sEx_le c2 q) d3
    · exact absurd (sEx_le d1 c1) c3
    · exact absurd (sEx_le c1 d1) d3
    · rw [c2, d2]
theorem fR.flow {A : Nat → Nat → Int} {nr nc : Nat} (hn : nc ≤ 10) (h : fR A nr nc (-1)) : (∀ c, c < nc → pln A nr c) ∧ sEx A nr nc := by
  rcases h with ⟨c, a1, a2, a3, a4⟩ | ⟨a1, ⟨c, c1, c2, c3, c4⟩ | ⟨c1, _⟩⟩
  · exact absurd a4.symm (nI_m1 (by omega))
  · exact absurd c4.symm (nI_m1 (by omega))
  · exact ⟨a1, c1⟩
