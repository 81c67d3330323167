/-! points of a flow, by rows -/
def ev (g : Nat → Nat → Int) (b : Nat → Int) (nc : Nat) (y : Nat → Int) (r : Nat) : Int := b r - sI (fun c => g r c * y c) nc
def rwO (g : Nat → Nat → Int) (b s : Nat → Int) (κ : Nat → Prop) (nr nc : Nat) (y : Nat → Int) : Prop := ∀ r, r < nr → (κ r → 0 ≤ s r * ev g b nc y r) ∧ (¬ κ r → ev g b nc y r = 0)
def inB (lo hi : Nat → Int) (nc : Nat) (y : Nat → Int) : Prop := ∀ c, c < nc → lo c ≤ y c ∧ y c ≤ hi c
def pt (g : Nat → Nat → Int) (b s : Nat → Int) (κ : Nat → Prop) (nr nc : Nat) (lo hi y : Nat → Int) : Prop := inB lo hi nc y ∧ rwO g b s κ nr nc y
def eds (nr nc : Nat) (u d : Nat → Nat) : Prop := ∀ c, c < nc → (u c < nr ∨ u c = 8) ∧ (d c < nr ∨ d c = 8)
theorem sI_nn {f : Nat → Int} {n : Nat} (h : ∀ x, x < n → 0 ≤ f x) : 0 ≤ sI f n := by
  have := sI_mono (f := fun _ => 0) (g := f) (n := n) h
  rw [sI_0] at this
  exact this
theorem infl_row {g : Nat → Nat → Int} {nr nc r : Nat} {u d : Nat → Nat} {y : Nat → Int} (he : ends g nr nc u d) (hr : r < nr) : infl u d y nc r = sI (fun c => g r c * y c) nc := by
  refine sI_congr (fun c hc => ?_)
  rw [(he c hc).2.2 r hr]
  by_cases w1 : u c = r <;> by_cases w2 : d c = r
  · rw [if_pos w1, if_pos w2, if_pos w1, if_pos w2]; omega
  · rw [if_pos w1, if_neg w2, if_pos w1, if_neg w2]; omega
  · rw [if_neg w1, if_pos w2, if_neg w1, if_pos w2]; omega
  · rw [if_neg w1, if_neg w2, if_neg w1, if_neg w2]; omega
theorem infl_no {nc v : Nat} {u d : Nat → Nat} {y : Nat → Int} (h : ∀ c, c < nc → u c ≠ v ∧ d c ≠ v) : infl u d y nc v = 0 := by
  unfold infl
  rw [sI_congr (h := fun _ => 0) (fun c hc => by rw [if_neg (h c hc).1, if_neg (h c hc).2]; rfl), sI_0]
theorem infl_8 {g : Nat → Nat → Int} {nr nc : Nat} {u d : Nat → Nat} {y : Nat → Int} (h2 : nr ≤ 8) (he : ends g nr nc u d) (hu : eds nr nc u d) : infl u d y nc 8 = -sI (fun r => sI (fun c => g r c * y c) nc) nr := by
  have h := infl_sum (u := u) (d := d) (x := y) (m := nc) (n := 9) (fun a ha => by have := he a ha; omega)
  have e8 : sI (fun v => infl u d y nc v) 9 = sI (fun v => infl u d y nc v) 8 + infl u d y nc 8 := rfl
  rw [e8, sI_ext (n := nr) (m := 8) (fun v a c => infl_no (fun k hk => by have := hu k hk; omega)) h2, sI_congr (n := nr) (fun r hr => infl_row he hr)] at h
  omega
theorem gS_xx {g : Nat → Nat → Int} {b : Nat → Int} {nr nc : Nat} {u d : Nat → Nat} {y : Nat → Int} (h2 : nr ≤ 8) (he : ends g nr nc u d) (hu : eds nr nc u d) (Z : Nat → Bool) : gS (bG b nr) 9 nc u d y y Z = if Z 8 = true then -sI (fun r => if Z r = true then 0 else ev g b nc y r) nr else sI (fun r => if Z r = true then ev g b nc y r else 0) nr := by
  have hud : ∀ a, a < nc → u a < 9 ∧ d a < 9 := fun a ha => by have := he a ha; omega
  rw [← bG_set h2]
  have e0 : gS (bG b nr) 9 nc u d y y Z = sI (fun v => if Z v = true then bG b nr v else 0) 9 - sI (fun v => if Z v = true then infl u d y nc v else 0) 9 := by
    rw [infl_set hud]
    unfold gS
    have e2 : sI (fun c => phi (y c) (y c) (Z (u c)) (Z (d c))) nc = -sI (fun a => (if Z (u a) = true then y a else 0) - (if Z (d a) = true then y a else 0)) nc := by
      rw [← sI_neg]
      exact sI_congr (fun a _ => phi_x)
    rw [e2]
    omega
  rw [e0, ← sI_sub]
  refine sI_congr (fun v hv => ?_)
  by_cases w : Z v = true
  · rw [if_pos w, if_pos w, if_pos w]
    by_cases hr : v < nr
    · unfold bG ev
      rw [if_pos hr, if_pos hr, infl_row he hr]
    · by_cases h8 : v = 8
      · subst h8
        unfold bG
        rw [if_neg hr, if_pos rfl, if_neg hr, if_pos rfl, infl_8 h2 he hu]
        have : sI (fun r => ev g b nc y r) nr = sI b nr - sI (fun r => sI (fun c => g r c * y c) nc) nr := by
          rw [← sI_sub]; rfl
        show -sI b nr - -sI (fun r => sI (fun c => g r c * y c) nc) nr = -sI (fun r => ev g b nc y r) nr
        omega
      · unfold bG
        rw [if_neg hr, if_neg h8, if_neg hr, if_neg h8, infl_no (fun k hk => by have := hu k hk; omega)]
        rfl
  · rw [if_neg w, if_neg w, if_neg w]
    rfl
theorem rw_iff {g : Nat → Nat → Int} {b s : Nat → Int} {κ : Nat → Prop} {nr nc : Nat} {u d : Nat → Nat} {y : Nat → Int} (hs : sgn nr s) (h2 : nr ≤ 8) (he : ends g nr nc u d) (hu : eds nr nc u d) : (∀ Z, alw (slG κ s nr) Z → 0 ≤ gS (bG b nr) 9 nc u d y y Z) ↔ rwO g b s κ nr nc y := by
  refine ⟨fun h r hr => ?_, fun h Z hZ => ?_⟩
  · have p : ¬ (κ r ∧ s r = -1) → 0 ≤ ev g b nc y r := fun w => by
      have := h (fun v => decide (v = r)) (fun p q hpq hp => by
        obtain ⟨r', h1, h3, h4⟩ := hpq
        have ep : p = r := of_decide_eq_true hp
        rcases h4 with ⟨a1, a2, a3⟩ | ⟨a1, a2, a3⟩
        · omega
        · exact absurd ⟨by rw [← ep, a2]; exact h3, by rw [← ep, a2]; exact a1⟩ w)
      rw [gS_xx h2 he hu, if_neg (by simp; omega)] at this
      have e : sI (fun x => if (fun v => decide (v = r)) x = true then ev g b nc y x else 0) nr = ev g b nc y r := by
        rw [← sI_pick (x := ev g b nc y r) hr]
        refine sI_congr (fun x _ => ?_)
        by_cases w : x = r
        · subst w; simp
        · rw [if_neg (by simp; exact w), if_neg (Ne.symm w)]
      rw [e] at this
      exact this
    have q : ¬ (κ r ∧ s r = 1) → ev g b nc y r ≤ 0 := fun w => by
      have := h (fun v => !decide (v = r)) (fun p q hpq hp => by
        obtain ⟨r', h1, h3, h4⟩ := hpq
        rcases h4 with ⟨a1, a2, a3⟩ | ⟨a1, a2, a3⟩
        · simp
          intro e
          exact w ⟨by rw [← e, a3]; exact h3, by rw [← e, a3]; exact a1⟩
        · simp
          omega)
      rw [gS_xx h2 he hu, if_pos (by simp; omega)] at this
      have e : sI (fun x => if (fun v => !decide (v = r)) x = true then 0 else ev g b nc y x) nr = ev g b nc y r := by
        rw [← sI_pick (x := ev g b nc y r) hr]
        refine sI_congr (fun x _ => ?_)
        by_cases w : x = r
        · subst w; simp
        · rw [if_pos (by simp; exact w), if_neg (Ne.symm w)]
      rw [e] at this
      omega
    refine ⟨fun k => ?_, fun k => ?_⟩
    · rcases hs r hr with e | e
      · have := p (fun w => by omega)
        rw [e]; omega
      · have := q (fun w => by omega)
        rw [e]; omega
    · have := p (fun w => k w.1)
      have := q (fun w => k w.1)
      omega
  · rw [gS_xx h2 he hu]
    by_cases z8 : Z 8 = true
    · rw [if_pos z8, ← sI_neg]
      refine sI_nn (fun r hr => ?_)
      by_cases w : Z r = true
      · rw [if_pos w]; omega
      · rw [if_neg w]
        by_cases k : κ r
        · have e : s r = -1 := by
            rcases hs r hr with e | e
            · exact absurd (hZ 8 r ⟨r, hr, k, Or.inl ⟨e, rfl, rfl⟩⟩ z8) w
            · exact e
          have := (h r hr).1 k
          rw [e] at this
          omega
        · rw [(h r hr).2 k]; omega
    · rw [if_neg z8]
      refine sI_nn (fun r hr => ?_)
      by_cases w : Z r = true
      · rw [if_pos w]
        by_cases k : κ r
        · have e : s r = 1 := by
            rcases hs r hr with e | e
            · exact e
            · exact absurd (hZ r 8 ⟨r, hr, k, Or.inr ⟨e, rfl, rfl⟩⟩ w) z8
          have := (h r hr).1 k
          rw [e] at this
          omega
        · rw [(h r hr).2 k]; omega
      · rw [if_neg w]; omega
/-- no set shows anything just where a point fits -/
theorem noSh_pt {g : Nat → Nat → Int} {b s : Nat → Int} {κ : Nat → Prop} {nr nc : Nat} {u d : Nat → Nat} {lo hi : Nat → Int} (hs : sgn nr s) (h2 : nr ≤ 8) (he : ends g nr nc u d) (hu : eds nr nc u d) (hlh : ∀ c, c < nc → lo c ≤ hi c) : noSh g b s κ nr nc lo hi ↔ ∃ y, pt g b s κ nr nc lo hi y := by
  rw [noSh_iff hs h2 he hu]
  refine ⟨fun h => ?_, fun ⟨y, h1, h3⟩ Z hZ => ?_⟩
  · obtain ⟨y, h1, h3⟩ := hof hlh h
    exact ⟨y, h1, (rw_iff hs h2 he hu).mp h3⟩
  · exact hof_back h1 ((rw_iff hs h2 he hu).mpr h3 Z hZ)
/-- sums over sums -/
theorem sI_swap (f : Nat → Nat → Int) (n m : Nat) : sI (fun a => sI (fun b => f a b) n) m = sI (fun b => sI (fun a => f a b) m) n := by
  induction m with
  | zero => show 0 = sI (fun _ => 0) n; rw [sI_0]
  | succ m ih =>
    rw [sI_s, ih, ← sI_add]
    rfl
theorem sI_mulr (t : Int) (g : Nat → Int) (n : Nat) : sI (fun r => g r * t) n = sI g n * t := by
  rw [Int.mul_comm, ← sI_mul]
  exact sI_congr (fun r _ => Int.mul_comm _ _)
theorem pi_ends {g : Nat → Nat → Int} {nr nc c : Nat} {u d : Nat → Nat} {π : Nat → Int} (he : ends g nr nc u d) (hu : eds nr nc u d) (h2 : nr ≤ 8) (hc : c < nc) : π (u c) - π (d c) = sI (fun r => (π r - π 8) * g r c) nr := by
  have pk : ∀ w : Nat, (w < nr ∨ w = 8) → sI (fun r => if w = r then π w - π 8 else 0) nr = π w - π 8 := fun w hw => by
    rcases hw with hw | hw
    · exact sI_pick hw
    · subst hw
      rw [sI_congr (h := fun _ => 0) (fun r hr => if_neg (by omega)), sI_0]; omega
  have e : sI (fun r => (π r - π 8) * g r c) nr = sI (fun r => (if u c = r then π (u c) - π 8 else 0) - (if d c = r then π (d c) - π 8 else 0)) nr := by
    refine sI_congr (fun r hr => ?_)
    rw [(he c hc).2.2 r hr]
    by_cases w1 : u c = r <;> by_cases w2 : d c = r
    · rw [if_pos w1, if_pos w2, if_pos w1, if_pos w2, w1, w2]; simp
    · rw [if_pos w1, if_neg w2, if_pos w1, if_neg w2, w1]; simp
    · rw [if_neg w1, if_pos w2, if_neg w1, if_pos w2, w2]; simp
    · rw [if_neg w1, if_neg w2, if_neg w1, if_neg w2]; simp
  rw [e, sI_sub, pk _ (hu c hc).1, pk _ (hu c hc).2]
  omega
/-- what two points differ by, in prices -/
theorem dual {g : Nat → Nat → Int} {b w x y π : Nat → Int} {nr nc : Nat} {u d : Nat → Nat} (he : ends g nr nc u d) (hu : eds nr nc u d) (h2 : nr ≤ 8) : sI (fun c => w c * y c) nc - sI (fun c => w c * x c) nc = sI (fun c => (w c - π (u c) + π (d c)) * (y c - x c)) nc + sI (fun r => (π r - π 8) * (ev g b nc x r - ev g b nc y r)) nr := by
  have e1 : sI (fun r => (π r - π 8) * (ev g b nc x r - ev g b nc y r)) nr = sI (fun c => (π (u c) - π (d c)) * (y c - x c)) nc := by
    have a1 : sI (fun r => (π r - π 8) * (ev g b nc x r - ev g b nc y r)) nr = sI (fun r => sI (fun c => (π r - π 8) * g r c * (y c - x c)) nc) nr := by
      refine sI_congr (fun r _ => ?_)
      have : ev g b nc x r - ev g b nc y r = sI (fun c => g r c * (y c - x c)) nc := by
        unfold ev
        have : sI (fun c => g r c * (y c - x c)) nc = sI (fun c => g r c * y c) nc - sI (fun c => g r c * x c) nc := by
          rw [← sI_sub]
          exact sI_congr (fun c _ => Int.mul_sub _ _ _)
        rw [this]
        omega
      rw [this, ← sI_mul]
      exact sI_congr (fun c _ => (Int.mul_assoc _ _ _).symm)
    rw [a1, sI_swap]
    refine sI_congr (fun c hc => ?_)
    rw [sI_mulr, ← pi_ends he hu h2 hc]
  rw [e1, ← sI_sub, ← sI_add]
  refine sI_congr (fun c _ => ?_)
  have : w c - π (u c) + π (d c) = w c - (π (u c) - π (d c)) := by omega
  rw [this, ← Int.add_mul, ← Int.mul_sub]
  congr 1
  omega
