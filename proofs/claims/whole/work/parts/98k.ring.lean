/-! the ring that spread() leaves behind, and what a turn of it does -/
theorem rep_m {m : Nat} {N : Nat → Nat} (h : ∀ k, k ≤ m → N k < m) : ∃ i j, i < j ∧ j ≤ m ∧ N i = N j := by
  refine Classical.byContradiction (fun w => ?_)
  have ds : ∀ i j, i < j → j ≤ m → N i ≠ N j := fun i j a b e => w ⟨i, j, a, b, e⟩
  have ch : ∀ v, ∃ k, ∀ l, l ≤ m → N l = v → l = k := fun v => by
    by_cases g : ∃ k, k ≤ m ∧ N k = v
    · obtain ⟨k, k9, kv⟩ := g
      refine ⟨k, fun l l9 lv => ?_⟩
      rcases Nat.lt_trichotomy l k with a | a | a
      · exact absurd (lv.trans kv.symm) (ds l k a k9)
      · exact a
      · exact absurd (kv.trans lv.symm) (ds k l a l9)
    · exact ⟨0, fun l l9 lv => absurd ⟨l, l9, lv⟩ g⟩
  obtain ⟨f, hf⟩ := Classical.axiomOfChoice ch
  have := pigeon m (m + 1) f (fun j hj => ⟨N j, h j (by omega), (hf (N j) j (by omega) rfl).symm⟩)
  omega
theorem bfx_cyc {n E : Nat} {tl hd : Nat → Nat} {w : Nat → Int} {src : Nat → Prop} {F B : Int} {l : Nat} {d : Nat → Int} {par : Nat → Nat} (hn : ∀ e, e < E → tl e < n ∧ hd e < n) (h : bfx n E tl hd w src F B (n + 1) E l d par) (hl : l < E) :
    ∃ N : Nat → Nat, N 0 = hd l ∧ (∀ j, N j < n ∧ par (N j) < E ∧ hd (par (N j)) = N j ∧ N (j + 1) = tl (par (N j))) ∧ ∃ P, 1 ≤ P ∧ P ≤ n ∧ N (n + 1 + P) = N (n + 1) ∧ (∀ p q, p < q → q < P → N (n + 1 + p) ≠ N (n + 1 + q)) ∧ sI (fun t => w (par (N (n + 1 + t)))) P < 0 := by
  obtain ⟨τ, r, t, a1, a2, a3, a4, a5, a6, a7⟩ := h
  have a6 := a6 hl
  generalize hN : (fun j => itr (fun v => tl (par v)) j (hd l)) = N
  have n0 : N 0 = hd l := by rw [← hN]; rfl
  have ns : ∀ j, N (j + 1) = tl (par (N j)) := fun j => by rw [← hN]; exact itr_s _ _ _
  have fst : ∀ j, j ≤ n → N j < n ∧ par (N j) < E ∧ n + 1 ≤ r (N j) + j := fun j => by
    induction j with
    | zero =>
      intro _
      rw [n0]
      refine ⟨a6.1, ?_, by omega⟩
      refine Nat.lt_of_not_le (fun g => ?_)
      have := ((a1 _ a6.1).2 g).2
      omega
    | succ j ih =>
      intro hj
      obtain ⟨i1, i2, i3⟩ := ih (by omega)
      have c7 := ((a1 _ i1).1 i2).2.2.2.2.2.2
      rw [ns]
      have i4 := (hn _ i2).1
      have i5 : n + 1 ≤ r (tl (par (N j))) + (j + 1) := by omega
      refine ⟨i4, ?_, i5⟩
      refine Nat.lt_of_not_le (fun g => ?_)
      have := ((a1 _ i4).2 g).2
      omega
  obtain ⟨i, j, hij, hjn, eij⟩ := rep_m (fun k hk => (fst k hk).1)
  have sft : ∀ a b, N a = N b → ∀ t, N (a + t) = N (b + t) := fun a b e t => by
    induction t with
    | zero => exact e
    | succ t ih =>
      have h1 := ns (a + t)
      have h2 := ns (b + t)
      rw [ih] at h1
      exact h1.trans h2.symm
  have bk : ∀ k, ∃ q, q ≤ n ∧ N k = N q := fun k => by
    induction k with
    | zero => exact ⟨0, by omega, rfl⟩
    | succ k ih =>
      obtain ⟨q, q1, q2⟩ := ih
      have e := sft k q q2 1
      by_cases w : q + 1 ≤ n
      · exact ⟨q + 1, w, e⟩
      · refine ⟨i + (n + 1 - j), by omega, ?_⟩
        rw [e, sft i j eij (n + 1 - j)]
        congr 1
        omega
  have al : ∀ k, N k < n ∧ par (N k) < E ∧ hd (par (N k)) = N k ∧ N (k + 1) = tl (par (N k)) := fun k => by
    obtain ⟨q, q1, q2⟩ := bk k
    have f := fst q q1
    rw [← q2] at f
    exact ⟨f.1, f.2.1, ((a1 _ f.1).1 f.2.1).2.1, ns k⟩
  have ex : ∃ P, 1 ≤ P ∧ N (n + 1 + P) = N (n + 1) := by
    refine ⟨j - i, by omega, ?_⟩
    have e1 := sft i j eij (n + 1 - i)
    rw [show i + (n + 1 - i) = n + 1 by omega, show j + (n + 1 - i) = n + 1 + (j - i) by omega] at e1
    exact e1.symm
  have ex2 : N (n + 1 + (j - i)) = N (n + 1) := by
    have e1 := sft i j eij (n + 1 - i)
    rw [show i + (n + 1 - i) = n + 1 by omega, show j + (n + 1 - i) = n + 1 + (j - i) by omega] at e1
    exact e1.symm
  obtain ⟨P, ⟨p1, p2⟩, p3⟩ := least_ex ex
  have pn : P ≤ n := by
    refine Nat.le_of_not_lt (fun g => p3 (j - i) (by omega) ⟨by omega, ex2⟩)
  refine ⟨N, n0, al, P, p1, pn, p2, fun p q hpq hq e => ?_, ?_⟩
  · have e1 := sft _ _ e (P - q)
    rw [show n + 1 + q + (P - q) = n + 1 + P by omega, p2, show n + 1 + p + (P - q) = n + 1 + (p + (P - q)) by omega] at e1
    exact p3 (p + (P - q)) (by omega) ⟨by omega, e1⟩
  · -- its cost
    have st : ∀ t, w (par (N (n + 1 + t))) ≤ d (N (n + 1 + t)) - d (N (n + 1 + t + 1)) ∧ (τ (N (n + 1 + t)) ≤ τ (N (n + 1 + t + 1)) → w (par (N (n + 1 + t))) < d (N (n + 1 + t)) - d (N (n + 1 + t + 1))) := fun t => by
      have f := al (n + 1 + t)
      obtain ⟨c1, c2, c3, c4, c5, c6, c7⟩ := (a1 _ f.1).1 f.2.1
      rw [f.2.2.2]
      exact ⟨by omega, fun g => by have := c6 g; omega⟩
    have tel : ∀ t, sI (fun t => d (N (n + 1 + t)) - d (N (n + 1 + t + 1))) t = d (N (n + 1)) - d (N (n + 1 + t)) := fun t => by
      induction t with
      | zero => show (0 : Int) = _; rw [Nat.add_zero]; omega
      | succ t ih => rw [sI_s, ih, show n + 1 + (t + 1) = n + 1 + t + 1 by omega]; omega
    have bad : ∃ t0, t0 < P ∧ τ (N (n + 1 + t0)) ≤ τ (N (n + 1 + t0 + 1)) := by
      refine Classical.byContradiction (fun g => ?_)
      have dec : ∀ t, t ≤ P → τ (N (n + 1 + t)) + t ≤ τ (N (n + 1)) := fun t => by
        induction t with
        | zero => intro _; rw [Nat.add_zero]; exact Nat.le_refl _
        | succ t ih =>
          intro ht
          have := ih (by omega)
          have : ¬ τ (N (n + 1 + t)) ≤ τ (N (n + 1 + t + 1)) := fun z => g ⟨t, by omega, z⟩
          rw [show n + 1 + (t + 1) = n + 1 + t + 1 by omega]
          omega
      have := dec P (Nat.le_refl _)
      rw [p2] at this
      omega
    obtain ⟨t0, h1, h3⟩ := bad
    have u := sI_upd (f := fun t => d (N (n + 1 + t)) - d (N (n + 1 + t + 1))) (g := fup (fun t => d (N (n + 1 + t)) - d (N (n + 1 + t + 1))) t0 (w (par (N (n + 1 + t0))))) h1 (fun x _ hx => fup_n _ _ hx)
    rw [fup_e, tel, p2] at u
    have m := sI_mono (f := fun t => w (par (N (n + 1 + t)))) (g := fup (fun t => d (N (n + 1 + t)) - d (N (n + 1 + t + 1))) t0 (w (par (N (n + 1 + t0))))) (n := P) (fun t ht => by
      by_cases e : t = t0
      · rw [e, fup_e]; exact Int.le_refl _
      · rw [fup_n _ _ e]; exact (st t).1)
    have := (st t0).2 h3
    omega
/-- one edge, as a change of columns and rows -/
def uc (o : Int) (c : Nat) : Int := if o = (c : Int) + 1 then 1 else if o = -(c : Int) - 1 then -1 else 0
def ur (o : Int) (r : Nat) : Int := if o = 100 + (r : Int) then 1 else if o = -100 - (r : Int) then -1 else 0
theorem rn_is {nr v r : Nat} (hr : r < nr) : rn nr v = r ↔ v = r := by
  unfold rn
  by_cases h : v < nr
  · rw [if_pos h]
  · rw [if_neg h]; omega
theorem sI_pk {f : Nat → Int} {n a : Nat} (ha : a < n) (h : ∀ x, x < n → x ≠ a → f x = 0) : sI f n = f a := by
  refine (sI_congr (fun x hx => ?_)).trans (sI_pick (x := f a) ha)
  by_cases e : a = x
  · rw [if_pos e, e]
  · rw [if_neg e]; exact h x hx (Ne.symm e)
theorem eK_fl {S : ZS} {s x : Nat → Int} {nc nr t h r : Nat} {w o : Int} (h1 : nc ≤ 10) (h2 : nr ≤ 8) (hs : sgn nr s) (hfl : flw S nc nr s) (hr : r < nr) (k : eK S s x nc nr nc nr t h w o) : sI (fun c => gg S s r c * uc o c) nc + s r * ur o r = (if h = r then 1 else 0) - (if t = r then 1 else 0) := by
  have he := ends_c hfl h2
  rcases k with ⟨c, a1, a2, a3, a4, a5, a6⟩ | ⟨c, a1, a2, a3, a4, a5, a6⟩ | ⟨r', a1, a2, a3, a4, a5, a6⟩ | ⟨r', a1, a2, a3, a4, a5, a6, a7⟩
  · have u0 : ur o r = 0 := by unfold ur; rw [if_neg (by omega), if_neg (by omega)]
    rw [sI_pk a1 (fun y hy hne => by unfold uc; rw [if_neg (by omega), if_neg (by omega), Int.mul_zero]), u0, (he c a1).2.2 r hr]
    have u1 : uc o c = 1 := by unfold uc; rw [if_pos a6]
    rw [u1, a3, a4]
    simp only [rn_is hr]
    omega
  · have u0 : ur o r = 0 := by unfold ur; rw [if_neg (by omega), if_neg (by omega)]
    rw [sI_pk a1 (fun y hy hne => by unfold uc; rw [if_neg (by omega), if_neg (by omega), Int.mul_zero]), u0, (he c a1).2.2 r hr]
    have u1 : uc o c = -1 := by unfold uc; rw [if_neg (by omega), if_pos a6]
    rw [u1, a3, a4]
    simp only [rn_is hr]
    omega
  · have z : sI (fun c => gg S s r c * uc o c) nc = 0 := by
      rw [sI_congr (h := fun _ => 0) (fun y hy => by unfold uc; rw [if_neg (by omega), if_neg (by omega), Int.mul_zero]), sI_0]
    rw [z, a3, a4]
    simp only [rn_is hr]
    unfold ur uS dS
    by_cases e : r' = r
    · subst e
      rw [if_pos a6]
      rcases hs r' hr with g | g
      · rw [g, if_pos rfl, if_pos rfl, if_pos rfl, if_neg (by omega)]; rfl
      · have g1 : ¬ s r' = 1 := by omega
        rw [if_neg g1, if_neg g1, if_neg (by omega), if_pos rfl, g]; rfl
    · rw [if_neg (by omega), if_neg (by omega)]
      by_cases g1 : s r' = 1
      · rw [if_pos g1, if_pos g1, if_neg e, if_neg (by omega)]; omega
      · rw [if_neg g1, if_neg g1, if_neg (by omega), if_neg e]; omega
  · have z : sI (fun c => gg S s r c * uc o c) nc = 0 := by
      rw [sI_congr (h := fun _ => 0) (fun y hy => by unfold uc; rw [if_neg (by omega), if_neg (by omega), Int.mul_zero]), sI_0]
    rw [z, a4, a5]
    simp only [rn_is hr]
    unfold ur uS dS
    by_cases e : r' = r
    · subst e
      rw [if_neg (by omega), if_pos a7]
      rcases hs r' hr with g | g
      · rw [g, if_pos rfl, if_pos rfl, if_pos rfl, if_neg (by omega)]; rfl
      · have g1 : ¬ s r' = 1 := by omega
        rw [if_neg g1, if_neg g1, if_pos rfl, if_neg (by omega), g]; rfl
    · rw [if_neg (by omega), if_neg (by omega)]
      by_cases g1 : s r' = 1
      · rw [if_pos g1, if_pos g1, if_neg e, if_neg (by omega)]; omega
      · rw [if_neg g1, if_neg g1, if_neg e, if_neg (by omega)]; omega
theorem eK_w {S : ZS} {s x : Nat → Int} {nc nr t h : Nat} {w o : Int} (h1 : nc ≤ 10) (k : eK S s x nc nr nc nr t h w o) : w = sI (fun c => cst S c * uc o c) nc := by
  rcases k with ⟨c, a1, a2, a3, a4, a5, a6⟩ | ⟨c, a1, a2, a3, a4, a5, a6⟩ | ⟨r', a1, a2, a3, a4, a5, a6⟩ | ⟨r', a1, a2, a3, a4, a5, a6, a7⟩
  · rw [sI_pk a1 (fun y hy hne => by unfold uc; rw [if_neg (by omega), if_neg (by omega), Int.mul_zero])]
    have u1 : uc o c = 1 := by unfold uc; rw [if_pos a6]
    rw [u1, a5]; omega
  · rw [sI_pk a1 (fun y hy hne => by unfold uc; rw [if_neg (by omega), if_neg (by omega), Int.mul_zero])]
    have u1 : uc o c = -1 := by unfold uc; rw [if_neg (by omega), if_pos a6]
    rw [u1, a5]; omega
  · rw [sI_congr (h := fun _ => 0) (fun y hy => by unfold uc; rw [if_neg (by omega), if_neg (by omega), Int.mul_zero]), sI_0, a5]
  · rw [sI_congr (h := fun _ => 0) (fun y hy => by unfold uc; rw [if_neg (by omega), if_neg (by omega), Int.mul_zero]), sI_0, a6]
/-- sums of at most one 1 and at most one -1 -/
theorem sI_pm {f : Nat → Int} {P Q : Nat → Prop} {n : Nat} (hf : ∀ t, t < n → (P t ∧ f t = 1) ∨ (Q t ∧ f t = -1) ∨ (¬ P t ∧ ¬ Q t ∧ f t = 0)) (hP : ∀ i j, i < n → j < n → P i → P j → i = j) (hQ : ∀ i j, i < n → j < n → Q i → Q j → i = j) : -1 ≤ sI f n ∧ sI f n ≤ 1 ∧ (1 ≤ sI f n → ∃ t, t < n ∧ P t) ∧ (sI f n ≤ -1 → ∃ t, t < n ∧ Q t) := by
  have ub : ∀ m, m ≤ n → (sI f m ≤ 1) ∧ ((∀ t, t < m → ¬ P t) → sI f m ≤ 0) := fun m => by
    induction m with
    | zero => intro _; exact ⟨(by decide : (0 : Int) ≤ 1), fun _ => Int.le_refl _⟩
    | succ m ih =>
      intro hm
      obtain ⟨i1, i2⟩ := ih (by omega)
      rw [sI_s]
      rcases hf m (by omega) with ⟨p, e⟩ | ⟨p, e⟩ | ⟨p, _, e⟩
      · have := i2 (fun t ht pt => by have := hP t m (by omega) (by omega) pt p; omega)
        exact ⟨by omega, fun g => absurd p (g m (by omega))⟩
      · exact ⟨by omega, fun g => by have := i2 (fun t ht => g t (by omega)); omega⟩
      · exact ⟨by omega, fun g => by have := i2 (fun t ht => g t (by omega)); omega⟩
  have lb : ∀ m, m ≤ n → (-1 ≤ sI f m) ∧ ((∀ t, t < m → ¬ Q t) → 0 ≤ sI f m) := fun m => by
    induction m with
    | zero => intro _; exact ⟨(by decide : (-1 : Int) ≤ 0), fun _ => Int.le_refl _⟩
    | succ m ih =>
      intro hm
      obtain ⟨i1, i2⟩ := ih (by omega)
      rw [sI_s]
      rcases hf m (by omega) with ⟨p, e⟩ | ⟨p, e⟩ | ⟨_, p, e⟩
      · exact ⟨by omega, fun g => by have := i2 (fun t ht => g t (by omega)); omega⟩
      · have := i2 (fun t ht pt => by have := hQ t m (by omega) (by omega) pt p; omega)
        exact ⟨by omega, fun g => absurd p (g m (by omega))⟩
      · exact ⟨by omega, fun g => by have := i2 (fun t ht => g t (by omega)); omega⟩
  refine ⟨(lb n (Nat.le_refl _)).1, (ub n (Nat.le_refl _)).1, fun g => ?_, fun g => ?_⟩
  · refine Classical.byContradiction (fun z => ?_)
    have := (ub n (Nat.le_refl _)).2 (fun t ht pt => z ⟨t, ht, pt⟩)
    omega
  · refine Classical.byContradiction (fun z => ?_)
    have := (lb n (Nat.le_refl _)).2 (fun t ht pt => z ⟨t, ht, pt⟩)
    omega
theorem eK_hd {S : ZS} {s x : Nat → Int} {nc nr t h : Nat} {w o : Int} (h1 : nc ≤ 10) (h2 : nr ≤ 8) (k : eK S s x nc nr nc nr t h w o) : (∀ c : Nat, o = (c : Int) + 1 → c < 10 → h = rn nr (upc S s nr c)) ∧ (∀ c : Nat, o = -(c : Int) - 1 → c < 10 → h = rn nr (dnc S s nr c)) ∧ (∀ r : Nat, o = 100 + (r : Int) → r < 8 → h = rn nr (uS s r) ∧ kap S r) ∧ (∀ r : Nat, o = -100 - (r : Int) → r < 8 → h = rn nr (dS s r) ∧ kap S r) := by
  rcases k with ⟨c, a1, a2, a3, a4, a5, a6⟩ | ⟨c, a1, a2, a3, a4, a5, a6⟩ | ⟨r', a1, a2, a3, a4, a5, a6⟩ | ⟨r', a1, a2, a3, a4, a5, a6, a7⟩
  · refine ⟨fun c' e _ => ?_, fun c' e _ => by omega, fun r e _ => by omega, fun r e _ => by omega⟩
    have : c' = c := by omega
    rw [this]; exact a4
  · refine ⟨fun c' e _ => by omega, fun c' e _ => ?_, fun r e _ => by omega, fun r e _ => by omega⟩
    have : c' = c := by omega
    rw [this]; exact a4
  · refine ⟨fun c' e _ => by omega, fun c' e _ => by omega, fun r e _ => ?_, fun r e _ => by omega⟩
    have : r = r' := by omega
    rw [this]; exact ⟨a4, a2⟩
  · refine ⟨fun c' e _ => by omega, fun c' e _ => by omega, fun r e _ => by omega, fun r e _ => ?_⟩
    have : r = r' := by omega
    rw [this]; exact ⟨a5, a2⟩
def ptS (S : ZS) (s : Nat → Int) (nc nr : Nat) (x : Nat → Int) : Prop := pt (gg S s) (bR S s) s (kap S) nr nc (loc S) (hic S) x
def trn (x : Nat → Int) (R : Int) (o : Nat → Int) (P c : Nat) : Int := x c + R * sI (fun t => uc (o t) c) P
set_option maxHeartbeats 1000000 in
theorem turn_pt {S : ZS} {s x w o : Nat → Int} {nc nr P : Nat} {M : Nat → Nat} {R : Int} (h1 : nc ≤ 10) (h2 : nr ≤ 8) (hfl : flw S nc nr s) (hx : ptS S s nc nr x) (hK : ∀ t, t < P → eK S s x nc nr nc nr (M (t + 1)) (M t) (w t) (o t)) (hM : M P = M 0) (hd : ∀ p q, p < q → q < P → M p ≠ M q) (hR : 1 ≤ R)
    (hRm : ∀ t, t < P → (∀ c, c < nc → o t = (c : Int) + 1 → R ≤ hic S c - x c) ∧ (∀ c, c < nc → o t = -(c : Int) - 1 → R ≤ x c - loc S c) ∧ (∀ r, r < nr → o t = -100 - (r : Int) → R ≤ s r * ev (gg S s) (bR S s) nc x r)) (hw : sI w P < 0) :
    ptS S s nc nr (trn x R o P) ∧ valI (cst S) (trn x R o P) nc + 1 ≤ valI (cst S) x nc := by
  have hs := hfl.2.1
  have inj : ∀ i j, i < P → j < P → M i = M j → i = j := fun i j hi hj e => by
    rcases Nat.lt_trichotomy i j with a | a | a
    · exact absurd e (hd i j a hj)
    · exact a
    · exact absurd e.symm (hd j i a hi)
  have zc : ∀ c, c < nc → -1 ≤ sI (fun t => uc (o t) c) P ∧ sI (fun t => uc (o t) c) P ≤ 1 ∧ (1 ≤ sI (fun t => uc (o t) c) P → ∃ t, t < P ∧ o t = (c : Int) + 1) ∧ (sI (fun t => uc (o t) c) P ≤ -1 → ∃ t, t < P ∧ o t = -(c : Int) - 1) := fun c hc => by
    refine sI_pm (fun t ht => ?_) (fun i j hi hj a b => ?_) (fun i j hi hj a b => ?_)
    · unfold uc
      by_cases e1 : o t = (c : Int) + 1
      · rw [if_pos e1]; exact Or.inl ⟨e1, rfl⟩
      · by_cases e2 : o t = -(c : Int) - 1
        · rw [if_neg e1, if_pos e2]; exact Or.inr (Or.inl ⟨e2, rfl⟩)
        · rw [if_neg e1, if_neg e2]; exact Or.inr (Or.inr ⟨e1, e2, rfl⟩)
    · exact inj i j hi hj (((eK_hd h1 h2 (hK i hi)).1 c a (by omega)).trans ((eK_hd h1 h2 (hK j hj)).1 c b (by omega)).symm)
    · exact inj i j hi hj (((eK_hd h1 h2 (hK i hi)).2.1 c a (by omega)).trans ((eK_hd h1 h2 (hK j hj)).2.1 c b (by omega)).symm)
  have zr : ∀ r, r < nr → -1 ≤ sI (fun t => ur (o t) r) P ∧ sI (fun t => ur (o t) r) P ≤ 1 ∧ (1 ≤ sI (fun t => ur (o t) r) P → ∃ t, t < P ∧ o t = 100 + (r : Int)) ∧ (sI (fun t => ur (o t) r) P ≤ -1 → ∃ t, t < P ∧ o t = -100 - (r : Int)) := fun r hr => by
    refine sI_pm (fun t ht => ?_) (fun i j hi hj a b => ?_) (fun i j hi hj a b => ?_)
    · unfold ur
      by_cases e1 : o t = 100 + (r : Int)
      · rw [if_pos e1]; exact Or.inl ⟨e1, rfl⟩
      · by_cases e2 : o t = -100 - (r : Int)
        · rw [if_neg e1, if_pos e2]; exact Or.inr (Or.inl ⟨e2, rfl⟩)
        · rw [if_neg e1, if_neg e2]; exact Or.inr (Or.inr ⟨e1, e2, rfl⟩)
    · exact inj i j hi hj (((eK_hd h1 h2 (hK i hi)).2.2.1 r a (by omega)).1.trans ((eK_hd h1 h2 (hK j hj)).2.2.1 r b (by omega)).1.symm)
    · exact inj i j hi hj (((eK_hd h1 h2 (hK i hi)).2.2.2 r a (by omega)).1.trans ((eK_hd h1 h2 (hK j hj)).2.2.2 r b (by omega)).1.symm)
  have bal : ∀ r, r < nr → sI (fun c => gg S s r c * sI (fun t => uc (o t) c) P) nc = -(s r * sI (fun t => ur (o t) r) P) := fun r hr => by
    have e1 : sI (fun c => gg S s r c * sI (fun t => uc (o t) c) P) nc = sI (fun t => sI (fun c => gg S s r c * uc (o t) c) nc) P := by
      rw [sI_swap]
      exact sI_congr (fun c _ => (sI_mul _ _ _).symm)
    have e2 : s r * sI (fun t => ur (o t) r) P = sI (fun t => s r * ur (o t) r) P := (sI_mul _ _ _).symm
    have e3 : sI (fun t => sI (fun c => gg S s r c * uc (o t) c) nc) P + sI (fun t => s r * ur (o t) r) P = sI (fun t => (if M t = r then (1 : Int) else 0) - (if M (t + 1) = r then 1 else 0)) P := by
      rw [← sI_add]
      exact sI_congr (fun t ht => eK_fl h1 h2 hs hfl hr (hK t ht))
    have tel : ∀ p, sI (fun t => (if M t = r then (1 : Int) else 0) - (if M (t + 1) = r then 1 else 0)) p = (if M 0 = r then 1 else 0) - (if M p = r then 1 else 0) := fun p => by
      induction p with
      | zero => show (0 : Int) = _; omega
      | succ p ih => rw [sI_s, ih]; omega
    rw [tel, hM] at e3
    rw [e1, e2]
    omega
  have evn : ∀ r, r < nr → ev (gg S s) (bR S s) nc (trn x R o P) r = ev (gg S s) (bR S s) nc x r + R * (s r * sI (fun t => ur (o t) r) P) := fun r hr => by
    have : trn x R o P = fun c => x c + R * sI (fun t => uc (o t) c) P := rfl
    rw [this, ev_add]
    have e : sI (fun c => gg S s r c * (R * sI (fun t => uc (o t) c) P)) nc = R * sI (fun c => gg S s r c * sI (fun t => uc (o t) c) P) nc := by
      rw [← sI_mul]
      exact sI_congr (fun c _ => Int.mul_left_comm _ _ _)
    rw [e, bal r hr, Int.mul_neg]
    omega
  have Rm : ∀ z : Int, -1 ≤ z → z ≤ 1 → R * z = 0 ∧ z = 0 ∨ R * z = R ∧ z = 1 ∨ R * z = -R ∧ z = -1 := fun z a b => by
    have : z = 0 ∨ z = 1 ∨ z = -1 := by omega
    rcases this with e | e | e <;> rw [e]
    · left; exact ⟨Int.mul_zero _, rfl⟩
    · right; left; exact ⟨Int.mul_one _, rfl⟩
    · right; right; exact ⟨by omega, rfl⟩
  refine ⟨⟨fun c hc => ?_, fun r hr => ?_⟩, ?_⟩
  · have b := hx.1 c hc
    obtain ⟨z1, z2, z3, z4⟩ := zc c hc
    show loc S c ≤ x c + R * sI (fun t => uc (o t) c) P ∧ x c + R * sI (fun t => uc (o t) c) P ≤ hic S c
    rcases Rm _ z1 z2 with ⟨e, _⟩ | ⟨e, e2⟩ | ⟨e, e2⟩
    · omega
    · obtain ⟨t, ht, eo⟩ := z3 (by omega)
      have := (hRm t ht).1 c hc eo
      omega
    · obtain ⟨t, ht, eo⟩ := z4 (by omega)
      have := (hRm t ht).2.1 c hc eo
      omega
  · rw [evn r hr]
    have e0 : s r * (ev (gg S s) (bR S s) nc x r + R * (s r * sI (fun t => ur (o t) r) P)) = s r * ev (gg S s) (bR S s) nc x r + R * sI (fun t => ur (o t) r) P := by
      rw [Int.mul_add, Int.mul_left_comm (s r) R, s_sq (hs r hr)]
    obtain ⟨z1, z2, z3, z4⟩ := zr r hr
    refine ⟨fun k => ?_, fun k => ?_⟩
    · rw [e0]
      have b := (hx.2 r hr).1 k
      rcases Rm _ z1 z2 with ⟨e, _⟩ | ⟨e, e2⟩ | ⟨e, e2⟩
      · omega
      · omega
      · obtain ⟨t, ht, eo⟩ := z4 (by omega)
        have := (hRm t ht).2.2 r hr eo
        omega
    · have z : sI (fun t => ur (o t) r) P = 0 := by
        rcases Rm _ z1 z2 with ⟨_, e⟩ | ⟨_, e⟩ | ⟨_, e⟩
        · exact e
        · obtain ⟨t, ht, eo⟩ := z3 (by omega)
          exact absurd ((eK_hd h1 h2 (hK t ht)).2.2.1 r eo (by omega)).2 k
        · obtain ⟨t, ht, eo⟩ := z4 (by omega)
          exact absurd ((eK_hd h1 h2 (hK t ht)).2.2.2 r eo (by omega)).2 k
      rw [z, (hx.2 r hr).2 k]
      simp
  · have : trn x R o P = fun c => x c + R * sI (fun t => uc (o t) c) P := rfl
    rw [this, valI_add]
    have e : valI (cst S) (fun c => R * sI (fun t => uc (o t) c) P) nc = R * sI w P := by
      unfold valI
      have e1 : sI (fun c => cst S c * (R * sI (fun t => uc (o t) c) P)) nc = R * sI (fun c => sI (fun t => cst S c * uc (o t) c) P) nc := by
        rw [← sI_mul]
        exact sI_congr (fun c _ => by rw [Int.mul_left_comm, sI_mul])
      rw [e1, ← sI_swap]
      congr 1
      exact sI_congr (fun t ht => (eK_w h1 (hK t ht)).symm)
    rw [e]
    have : R * sI w P ≤ 1 * sI w P := by
      have := Int.mul_le_mul_of_nonpos_right hR (show sI w P ≤ 0 by omega)
      exact this
    omega
