/-! the least weight is the best point -/
def valI (w y : Nat → Int) (nc : Nat) : Int := sI (fun c => w c * y c) nc
/-- the best point: the least value, and of those the first -/
def bstP (P : (Nat → Int) → Prop) (w : Nat → Int) (nc : Nat) (x : Nat → Int) : Prop := P x ∧ ∀ y, P y → valI w x nc < valI w y nc ∨ (valI w x nc = valI w y nc ∧ ¬ lexlt y x nc)
def wW (w : Nat → Int) (c : Nat) : Int := w c * 1024 + pwc c
theorem valI_add (w x z : Nat → Int) (nc : Nat) : valI w (fun c => x c + z c) nc = valI w x nc + valI w z nc := by
  unfold valI
  rw [← sI_add]
  exact sI_congr (fun c _ => Int.mul_add _ _ _)
theorem valI_sub (w x z : Nat → Int) (nc : Nat) : valI w (fun c => x c - z c) nc = valI w x nc - valI w z nc := by
  unfold valI
  rw [← sI_sub]
  exact sI_congr (fun c _ => Int.mul_sub _ _ _)
theorem valI_W (w z : Nat → Int) (nc : Nat) : valI (wW w) z nc = 1024 * valI w z nc + sI (fun c => pwc c * z c) nc := by
  unfold valI wW
  rw [← sI_mul, ← sI_add]
  refine sI_congr (fun c _ => ?_)
  rw [Int.add_mul, Int.mul_assoc, Int.mul_left_comm]
theorem ev_add {g : Nat → Nat → Int} {b x z : Nat → Int} {nc r : Nat} : ev g b nc (fun c => x c + z c) r = ev g b nc x r - sI (fun c => g r c * z c) nc := by
  unfold ev
  have : sI (fun c => g r c * (x c + z c)) nc = sI (fun c => g r c * x c) nc + sI (fun c => g r c * z c) nc := by
    rw [← sI_add]
    exact sI_congr (fun c _ => Int.mul_add _ _ _)
  rw [this]; omega
theorem ev_sub {g : Nat → Nat → Int} {b x z : Nat → Int} {nc r : Nat} : ev g b nc (fun c => x c - z c) r = ev g b nc x r + sI (fun c => g r c * z c) nc := by
  unfold ev
  have : sI (fun c => g r c * (x c - z c)) nc = sI (fun c => g r c * x c) nc - sI (fun c => g r c * z c) nc := by
    rw [← sI_sub]
    exact sI_congr (fun c _ => Int.mul_sub _ _ _)
  rw [this]; omega
/-- columns and, behind them, an arc for each row -/
def uX (u : Nat → Nat) (s : Nat → Int) (nc a : Nat) : Nat := if a < nc then u a else if s (a - nc) = 1 then a - nc else 8
def dX (d : Nat → Nat) (s : Nat → Int) (nc a : Nat) : Nat := if a < nc then d a else if s (a - nc) = 1 then 8 else a - nc
theorem infl_X {g : Nat → Nat → Int} {s : Nat → Int} {nr nc r : Nat} {u d : Nat → Nat} {z : Nat → Int} (hs : sgn nr s) (h2 : nr ≤ 8) (he : ends g nr nc u d) (hr : r < nr) : infl (uX u s nc) (dX d s nc) z (nc + nr) r = sI (fun c => g r c * z c) nc + s r * z (nc + r) := by
  unfold infl
  rw [sI_split]
  have e1 : sI (fun a => (if uX u s nc a = r then z a else 0) - (if dX d s nc a = r then z a else 0)) nc = sI (fun c => g r c * z c) nc := by
    rw [← infl_row he hr]
    unfold infl uX dX
    exact sI_congr (fun a ha => by rw [if_pos ha, if_pos ha])
  have e2 : sI (fun j => (if uX u s nc (nc + j) = r then z (nc + j) else 0) - (if dX d s nc (nc + j) = r then z (nc + j) else 0)) nr = s r * z (nc + r) := by
    refine (sI_congr (fun j hj => ?_)).trans (sI_pick (x := s r * z (nc + r)) hr)
    have e3 : uX u s nc (nc + j) = if s j = 1 then j else 8 := by unfold uX; rw [if_neg (by omega), show nc + j - nc = j by omega]
    have e4 : dX d s nc (nc + j) = if s j = 1 then 8 else j := by unfold dX; rw [if_neg (by omega), show nc + j - nc = j by omega]
    rw [e3, e4]
    by_cases e : r = j
    · subst e
      rw [if_pos rfl]
      rcases hs r hr with w | w
      · rw [w, if_pos rfl, if_pos rfl, if_pos rfl, if_neg (by omega)]; omega
      · rw [if_neg (show ¬ s r = 1 by omega), if_neg (show ¬ s r = 1 by omega), if_neg (show ¬ (8 : Nat) = r by omega), if_pos rfl, w]; omega
    · rw [if_neg e]
      by_cases w : s j = 1
      · rw [if_pos w, if_pos w, if_neg (by omega), if_neg (by omega)]; rfl
      · rw [if_neg w, if_neg w, if_neg (by omega), if_neg (by omega)]; rfl
  rw [e1, e2]
theorem s_sq {x y : Int} (h : x = 1 ∨ x = -1) : x * (x * y) = y := by
  rcases h with e | e <;> rw [e] <;> omega
theorem same_pt {g : Nat → Nat → Int} {b s w lo hi x z : Nat → Int} {κ : Nat → Prop} {nr nc : Nat} {u d : Nat → Nat} (hn : nc ≤ 10) (hs : sgn nr s) (h2 : nr ≤ 8) (he : ends g nr nc u d) (hu : eds nr nc u d)
    (hx : pt g b s κ nr nc lo hi x) (hW : ∀ y, pt g b s κ nr nc lo hi y → valI (wW w) x nc ≤ valI (wW w) y nc) (hz : bstP (pt g b s κ nr nc lo hi) w nc z) : ∀ c, c < nc → x c = z c := by
  refine fun c hc => Classical.byContradiction (fun hne => ?_)
  obtain ⟨hz, hzb⟩ := hz
  have ext : ∀ r, r < nr → sI (fun c => g r c * (z c - x c)) nc = ev g b nc x r - ev g b nc z r := fun r _ => by
    have : sI (fun c => g r c * (z c - x c)) nc = sI (fun c => g r c * z c) nc - sI (fun c => g r c * x c) nc := by
      rw [← sI_sub]
      exact sI_congr (fun c _ => Int.mul_sub _ _ _)
    rw [this]; unfold ev; omega
  have bX : ∀ a, a < nc + nr → uX u s nc a < 9 ∧ dX d s nc a < 9 := fun a ha => by
    unfold uX dX
    by_cases w : a < nc
    · rw [if_pos w, if_pos w]; have := he a w; omega
    · rw [if_neg w, if_neg w]; split <;> omega
  have eX : ∀ (f : Nat → Int), (∀ r, r < nr → infl (uX u s nc) (dX d s nc) f (nc + nr) r = 0) → ∀ v, v < 9 → infl (uX u s nc) (dX d s nc) f (nc + nr) v = 0 := fun f hf v hv => by
    have mid : ∀ v, nr ≤ v → v < 8 → infl (uX u s nc) (dX d s nc) f (nc + nr) v = 0 := fun v a b => infl_no (fun k hk => by
      unfold uX dX
      by_cases w : k < nc
      · rw [if_pos w, if_pos w]; have := hu k w; omega
      · rw [if_neg w, if_neg w]; split <;> omega)
    have t := infl_sum (u := uX u s nc) (d := dX d s nc) (x := f) (m := nc + nr) (n := 9) bX
    have e8 : sI (fun v => infl (uX u s nc) (dX d s nc) f (nc + nr) v) 9 = sI (fun v => infl (uX u s nc) (dX d s nc) f (nc + nr) v) 8 + infl (uX u s nc) (dX d s nc) f (nc + nr) 8 := rfl
    rw [e8, sI_ext (n := nr) (m := 8) (fun v a b => mid v a b) h2, sI_congr (h := fun _ => 0) hf, sI_0] at t
    by_cases h1 : v < nr
    · exact hf v h1
    · by_cases h8 : v = 8
      · subst h8; omega
      · exact mid v (by omega) (by omega)
  -- the difference, and a cycle in it
  have hZ : ∀ r, r < nr → infl (uX u s nc) (dX d s nc) (fun a => if a < nc then z a - x a else s (a - nc) * (ev g b nc z (a - nc) - ev g b nc x (a - nc))) (nc + nr) r = 0 := fun r hr => by
    rw [infl_X hs h2 he hr, if_neg (by omega), show nc + r - nc = r by omega, s_sq (hs r hr), sI_congr (h := fun c => g r c * (z c - x c)) (fun c hc => by rw [if_pos hc]), ext r hr]
    omega
  obtain ⟨ζ, z1, ⟨a, ha, z2⟩, z3⟩ := cyc bX (eX _ hZ) ⟨c, by omega, by rw [if_pos hc]; omega⟩
  have zr : ∀ r, r < nr → sI (fun c => g r c * ζ c) nc = -(s r * ζ (nc + r)) := fun r hr => by
    have := z1 r (by omega)
    rw [infl_X hs h2 he hr] at this
    omega
  have zc : ∀ c, c < nc → ζ c = 0 ∨ (ζ c = 1 ∧ x c < z c) ∨ (ζ c = -1 ∧ z c < x c) := fun c hc => by
    have := z3 c (by omega)
    rw [if_pos hc] at this
    omega
  have zs : ∀ r, r < nr → ζ (nc + r) = 0 ∨ (ζ (nc + r) = 1 ∧ s r * ev g b nc x r < s r * ev g b nc z r) ∨ (ζ (nc + r) = -1 ∧ s r * ev g b nc z r < s r * ev g b nc x r) := fun r hr => by
    have := z3 (nc + r) (by omega)
    rw [if_neg (by omega), show nc + r - nc = r by omega, Int.mul_sub] at this
    omega
  have y1 : pt g b s κ nr nc lo hi (fun c => x c + ζ c) := by
    refine ⟨fun c hc => ?_, fun r hr => ?_⟩
    · have := hx.1 c hc
      have := hz.1 c hc
      have := zc c hc
      show lo c ≤ x c + ζ c ∧ x c + ζ c ≤ hi c
      omega
    · rw [ev_add, zr r hr]
      have e : s r * (ev g b nc x r - -(s r * ζ (nc + r))) = s r * ev g b nc x r + ζ (nc + r) := by
        have := s_sq (y := ζ (nc + r)) (hs r hr)
        rw [Int.mul_sub, Int.mul_neg, this]; omega
      refine ⟨fun k => ?_, fun k => ?_⟩
      · rw [e]
        have := (hx.2 r hr).1 k
        have := (hz.2 r hr).1 k
        have := zs r hr
        omega
      · have a1 := (hx.2 r hr).2 k
        have a2 := (hz.2 r hr).2 k
        have a3 := zs r hr
        rw [a1, a2] at a3
        have : ζ (nc + r) = 0 := by omega
        rw [this, a1]; omega
  have y2 : pt g b s κ nr nc lo hi (fun c => z c - ζ c) := by
    refine ⟨fun c hc => ?_, fun r hr => ?_⟩
    · have := hx.1 c hc
      have := hz.1 c hc
      have := zc c hc
      show lo c ≤ z c - ζ c ∧ z c - ζ c ≤ hi c
      omega
    · rw [ev_sub, zr r hr]
      have e : s r * (ev g b nc z r + -(s r * ζ (nc + r))) = s r * ev g b nc z r - ζ (nc + r) := by
        have := s_sq (y := ζ (nc + r)) (hs r hr)
        rw [Int.mul_add, Int.mul_neg, this]; omega
      refine ⟨fun k => ?_, fun k => ?_⟩
      · rw [e]
        have := (hx.2 r hr).1 k
        have := (hz.2 r hr).1 k
        have := zs r hr
        omega
      · have a1 := (hx.2 r hr).2 k
        have a2 := (hz.2 r hr).2 k
        have a3 := zs r hr
        rw [a1, a2] at a3
        have : ζ (nc + r) = 0 := by omega
        rw [this, a2]; omega
  have zb : ∀ c, c < nc → -1 ≤ ζ c ∧ ζ c ≤ 1 := fun c hc => by have := zc c hc; omega
  have q1 := hW _ y1
  rw [valI_add, valI_W w ζ nc] at q1
  have q2 := hzb _ y2
  rw [valI_sub] at q2
  rcases q2 with q2 | ⟨q2, q3⟩
  · have := pw_all hn zb
    omega
  · have nz : ∃ c, c < nc ∧ ζ c ≠ 0 := by
      refine Classical.byContradiction (fun w => ?_)
      have z0 : ∀ c, c < nc → ζ c = 0 := fun c hc => Classical.byContradiction (fun g => w ⟨c, hc, g⟩)
      by_cases h : a < nc
      · exact z2 (z0 a h)
      · have := zr (a - nc) (by omega)
        rw [sI_congr (h := fun _ => 0) (fun c hc => by rw [z0 c hc, Int.mul_zero]), sI_0, show nc + (a - nc) = a by omega] at this
        rcases hs (a - nc) (by omega) with e | e <;> rw [e] at this <;> omega
    obtain ⟨k, k1, k2, k3⟩ := first_ne nz
    have : ζ k = -1 := by
      rcases zc k k1 with e | ⟨e, _⟩ | ⟨e, _⟩
      · exact absurd e k2
      · exact absurd ⟨k, k1, (by show z k - ζ k < z k; omega), fun j hj => (by show z j - ζ j = z j; have := k3 j hj; omega)⟩ q3
      · exact e
    have := pw_lex hn zb k1 this k3
    omega
/-- a point with prices has the least weight -/
def prS (s π : Nat → Int) (κ : Nat → Prop) (g : Nat → Nat → Int) (b : Nat → Int) (nr nc : Nat) (x : Nat → Int) : Prop := ∀ r, r < nr → κ r → s r * (π r - π 8) ≤ 0 ∧ (0 < s r * ev g b nc x r → π r = π 8)
def prC (w π lo hi x : Nat → Int) (u d : Nat → Nat) (nc : Nat) : Prop := ∀ c, c < nc → (x c < hi c → 0 ≤ w c - π (u c) + π (d c)) ∧ (lo c < x c → w c - π (u c) + π (d c) ≤ 0)
theorem mul_nn {x y : Int} (h : (0 ≤ x ∧ 0 ≤ y) ∨ (x ≤ 0 ∧ y ≤ 0)) : 0 ≤ x * y := by
  rcases h with ⟨a, b⟩ | ⟨a, b⟩
  · exact Int.mul_nonneg a b
  · exact Int.mul_nonneg_of_nonpos_of_nonpos a b
theorem term_c {w π lo hi x y : Nat → Int} {u d : Nat → Nat} {nc c : Nat} (hp : prC w π lo hi x u d nc) (hc : c < nc) (hx : lo c ≤ x c ∧ x c ≤ hi c) (hy : lo c ≤ y c ∧ y c ≤ hi c) : 0 ≤ (w c - π (u c) + π (d c)) * (y c - x c) := by
  have := hp c hc
  rcases Int.lt_trichotomy (x c) (y c) with h | h | h
  · exact mul_nn (Or.inl ⟨this.1 (by omega), by omega⟩)
  · rw [h, Int.sub_self, Int.mul_zero]; exact Int.le_refl _
  · exact mul_nn (Or.inr ⟨this.2 (by omega), by omega⟩)
theorem term_r {s π b x y : Nat → Int} {κ : Nat → Prop} {g : Nat → Nat → Int} {nr nc r : Nat} (hs : sgn nr s) (hp : prS s π κ g b nr nc x) (hr : r < nr) (hx : rwO g b s κ nr nc x) (hy : rwO g b s κ nr nc y) : 0 ≤ (π r - π 8) * (ev g b nc x r - ev g b nc y r) := by
  by_cases k : κ r
  · have p := hp r hr k
    have a := (hx r hr).1 k
    have b := (hy r hr).1 k
    rcases hs r hr with e | e
    · rw [e] at p a b
      by_cases w : π r = π 8
      · rw [w, Int.sub_self, Int.zero_mul]; exact Int.le_refl _
      · exact mul_nn (Or.inr ⟨by omega, by have := fun z => w (p.2 z); omega⟩)
    · rw [e] at p a b
      by_cases w : π r = π 8
      · rw [w, Int.sub_self, Int.zero_mul]; exact Int.le_refl _
      · exact mul_nn (Or.inl ⟨by omega, by have := fun z => w (p.2 z); omega⟩)
  · rw [(hx r hr).2 k, (hy r hr).2 k, Int.sub_self, Int.mul_zero]; exact Int.le_refl _
theorem least_w {g : Nat → Nat → Int} {b s w π lo hi x y : Nat → Int} {κ : Nat → Prop} {nr nc : Nat} {u d : Nat → Nat} (hs : sgn nr s) (h2 : nr ≤ 8) (he : ends g nr nc u d) (hu : eds nr nc u d) (hc : prC w π lo hi x u d nc) (hp : prS s π κ g b nr nc x) (hx : pt g b s κ nr nc lo hi x) (hy : pt g b s κ nr nc lo hi y) : valI w x nc ≤ valI w y nc := by
  have d1 := dual (b := b) (w := w) (x := x) (y := y) (π := π) he hu h2
  have a1 := sI_nn (n := nc) (fun c h => term_c hc h (hx.1 c h) (hy.1 c h))
  have a2 := sI_nn (n := nr) (fun r h => term_r hs hp h hx.2 hy.2)
  unfold valI
  omega
