/-! the best point is there, it is one, and it has prices -/
theorem least_int {p : Int → Prop} {l : Int} (h : ∃ v, p v) (hl : ∀ v, p v → l ≤ v) : ∃ v, p v ∧ ∀ w, p w → v ≤ w := by
  obtain ⟨v, hv⟩ := h
  have := least_ex (p := fun n : Nat => p (l + n)) ⟨(v - l).toNat, by
    have := hl v hv
    show p (l + ((v - l).toNat : Int))
    rw [show l + ((v - l).toNat : Int) = v by omega]
    exact hv⟩
  obtain ⟨n, hn, hm⟩ := this
  refine ⟨l + n, hn, fun w hw => ?_⟩
  have := hl w hw
  refine Int.not_lt.mp (fun g => hm (w - l).toNat (by omega) ?_)
  show p (l + ((w - l).toNat : Int))
  rw [show l + ((w - l).toNat : Int) = w by omega]
  exact hw
theorem lxm_ex {P : (Nat → Int) → Prop} {nc : Nat} {l : Int} (h : ∃ y, P y) (hl : ∀ y, P y → ∀ c, c < nc → l ≤ y c) : ∃ x, lxm P nc x := by
  have key : ∀ k, k ≤ nc → ∃ x, P x ∧ ∀ y, P y → ∀ j, j < k → (∀ i, i < j → y i = x i) → x j ≤ y j := fun k => by
    induction k with
    | zero => intro _; obtain ⟨y, hy⟩ := h; exact ⟨y, hy, fun _ _ j hj => by omega⟩
    | succ k ih =>
      intro hk
      obtain ⟨x, hx, hm⟩ := ih (by omega)
      obtain ⟨v, ⟨z, z1, z2, z3⟩, vm⟩ := least_int (p := fun v => ∃ z, P z ∧ (∀ i, i < k → z i = x i) ∧ z k = v) (l := l) ⟨x k, x, hx, fun _ _ => rfl, rfl⟩ (fun v ⟨z, z1, _, z3⟩ => by rw [← z3]; exact hl z z1 k (by omega))
      refine ⟨z, z1, fun y hy j hj pre => ?_⟩
      by_cases e : j = k
      · subst e
        rw [z3]
        exact vm (y j) ⟨y, hy, fun i hi => (pre i hi).trans (z2 i hi), rfl⟩
      · rw [z2 j (by omega)]
        exact hm y hy j (by omega) (fun i hi => (pre i hi).trans (z2 i (by omega)))
  obtain ⟨x, hx, hm⟩ := key nc (Nat.le_refl _)
  refine ⟨x, hx, fun y hy ⟨k, k1, k2, k3⟩ => ?_⟩
  have := hm y hy k k1 k3
  omega
theorem bst_ex {P : (Nat → Int) → Prop} {w : Nat → Int} {nc : Nat} {l m : Int} (h : ∃ y, P y) (hl : ∀ y, P y → ∀ c, c < nc → l ≤ y c) (hm : ∀ y, P y → m ≤ valI w y nc) : ∃ x, bstP P w nc x := by
  obtain ⟨v, ⟨z, z1, z2⟩, vm⟩ := least_int (p := fun v => ∃ z, P z ∧ valI w z nc = v) (l := m) (by obtain ⟨y, hy⟩ := h; exact ⟨_, y, hy, rfl⟩) (fun v ⟨z, z1, z2⟩ => by rw [← z2]; exact hm z z1)
  obtain ⟨x, ⟨x1, x2⟩, x3⟩ := lxm_ex (P := fun y => P y ∧ valI w y nc = v) (nc := nc) (l := l) ⟨z, z1, z2⟩ (fun y hy => hl y hy.1)
  refine ⟨x, x1, fun y hy => ?_⟩
  have := vm _ ⟨y, hy, rfl⟩
  rcases Int.lt_or_le (valI w x nc) (valI w y nc) with g | g
  · exact Or.inl g
  · exact Or.inr ⟨by omega, x3 y ⟨hy, by omega⟩⟩
theorem bst_uniq {P : (Nat → Int) → Prop} {w x z : Nat → Int} {nc : Nat} (hx : bstP P w nc x) (hz : bstP P w nc z) : ∀ c, c < nc → x c = z c := by
  refine fun c hc => Classical.byContradiction (fun hne => ?_)
  obtain ⟨k, k1, k2, k3⟩ := first_ne (ζ := fun c => x c - z c) (n := nc) ⟨c, hc, by show x c - z c ≠ 0; omega⟩
  have k3' : ∀ j, j < k → x j = z j := fun j hj => by have : x j - z j = 0 := k3 j hj; omega
  have k2' : x k - z k ≠ 0 := k2
  have a := hx.2 z hz.1
  have b := hz.2 x hx.1
  rcases Int.lt_trichotomy (x k) (z k) with g | g | g
  · have l : lexlt x z nc := ⟨k, k1, g, k3'⟩
    rcases b with b | ⟨_, b⟩
    · rcases a with a | ⟨a, _⟩ <;> omega
    · exact b l
  · omega
  · have l : lexlt z x nc := ⟨k, k1, g, fun j hj => (k3' j hj).symm⟩
    rcases a with a | ⟨_, a⟩
    · rcases b with b | ⟨b, _⟩ <;> omega
    · exact a l
theorem bst_congr {S : ZS} {s x z : Nat → Int} {nc nr : Nat} (h : ∀ c, c < nc → x c = z c) (hz : bstP (ptS S s nc nr) (cst S) nc z) : bstP (ptS S s nc nr) (cst S) nc x := by
  refine ⟨pt_congr (fun c hc => (h c hc).symm) (fun _ _ => Iff.rfl) (fun c hc => by rw [h c hc]; exact hz.1.1 c hc) hz.1, fun y hy => ?_⟩
  have e : valI (cst S) x nc = valI (cst S) z nc := sI_congr (fun c hc => by rw [h c hc])
  rw [e]
  refine (hz.2 y hy).imp id (fun g => ⟨g.1, fun ⟨k, k1, k2, k3⟩ => g.2 ⟨k, k1, by rw [← h k k1]; exact k2, fun j hj => by rw [k3 j hj, h j (by omega)]⟩⟩)
/-- a list of those that have a property -/
theorem enum_ex {p : Nat → Prop} (M : Nat) : ∃ (E : Nat) (f : Nat → Nat), E ≤ M ∧ (∀ e, e < E → f e < M ∧ p (f e)) ∧ ∀ i, i < M → p i → ∃ e, e < E ∧ f e = i := by
  induction M with
  | zero => exact ⟨0, id, by omega, fun e he => by omega, fun i hi => by omega⟩
  | succ M ih =>
    obtain ⟨E, f, h1, h2, h3⟩ := ih
    by_cases g : p M
    · refine ⟨E + 1, nup f E M, by omega, fun e he => ?_, fun i hi hp => ?_⟩
      · by_cases w : e = E
        · rw [w, nup_e]; exact ⟨by omega, g⟩
        · rw [nup_n _ _ w]; have := h2 e (by omega); exact ⟨by omega, this.2⟩
      · by_cases w : i = M
        · exact ⟨E, by omega, by rw [nup_e, w]⟩
        · obtain ⟨e, e1, e2⟩ := h3 i (by omega) hp
          exact ⟨e, by omega, by rw [nup_n _ _ (by omega)]; exact e2⟩
    · refine ⟨E, f, by omega, fun e he => ?_, fun i hi hp => ?_⟩
      · have := h2 e he; exact ⟨by omega, this.2⟩
      · by_cases w : i = M
        · rw [w] at hp; exact absurd hp g
        · exact h3 i (by omega) hp
theorem bfx_ex {n E : Nat} {tl hd : Nat → Nat} {w : Nat → Int} (hn9 : n ≤ 9) (hE : E ≤ 36) (hn : ∀ e, e < E → tl e < n ∧ hd e < n) (hw : ∀ e, e < E → -1000 ≤ w e ∧ w e ≤ 1000) : ∃ l d par, bfx n E tl hd w (fun _ => True) 1000000000000 1000 (n + 1) E l d par := by
  have inner : ∀ k, k ≤ 10 → (∃ d par, bfx n E tl hd w (fun _ => True) 1000000000000 1000 k 0 E d par) → ∀ i, i ≤ E → ∃ l d par, bfx n E tl hd w (fun _ => True) 1000000000000 1000 k i l d par := fun k hk h0 i => by
    induction i with
    | zero => intro _; obtain ⟨d, par, h⟩ := h0; exact ⟨E, d, par, h⟩
    | succ i ih =>
      intro hi
      obtain ⟨l, d, par, h⟩ := ih (by omega)
      by_cases g : d (tl i) < 1000000000000 ∧ d (tl i) + w i < d (hd i)
      · have bd := kE_w (B := 1000) (k := k) (i := i + 1) (E := E) (M := 36) (by omega) hk hE hi
        have b36 : (1000 : Int) * (11 * (36 : Nat)) = 396000 := by decide
        exact ⟨i, _, _, bfx_relax (by omega) h (by omega) (hn i (by omega)) g.1 g.2 (hw i (by omega)) (by omega)⟩
      · exact ⟨l, d, par, bfx_skip (by omega) h (fun g1 => Int.not_lt.mp (fun g2 => g ⟨g1, g2⟩))⟩
  have outer : ∀ k, 1 ≤ k → k ≤ 10 → ∃ d par, bfx n E tl hd w (fun _ => True) 1000000000000 1000 k 0 E d par := fun k => by
    induction k with
    | zero => intro h; omega
    | succ k ih =>
      intro _ hk
      by_cases e : k = 0
      · subst e
        exact ⟨fun _ => 0, _, bfx_start (by decide) (fun v _ => Or.inr ⟨trivial, rfl⟩) (fun v _ _ => rfl) (by omega)⟩
      · obtain ⟨l, d, par, h⟩ := inner k (by omega) (ih (by omega) (by omega)) E (Nat.le_refl _)
        exact ⟨d, par, bfx_next h⟩
  exact inner (n + 1) (by omega) (outer (n + 1) (by omega) (by omega)) E (Nat.le_refl _)
/-- all that may change at a point, in a list -/
theorem eK_list (S : ZS) (s x : Nat → Int) (nc nr : Nat) : ∃ (E : Nat) (tl hd : Nat → Nat) (w o : Nat → Int), E ≤ 2 * nc + 2 * nr ∧ (∀ e, e < E → eK S s x nc nr nc nr (tl e) (hd e) (w e) (o e)) ∧ ∀ t h v p, eK S s x nc nr nc nr t h v p → ∃ e, e < E ∧ tl e = t ∧ hd e = h ∧ w e = v := by
  have dat : ∃ (TL HD : Nat → Nat) (WW OO : Nat → Int), (∀ c, c < nc → TL c = rn nr (dnc S s nr c) ∧ HD c = rn nr (upc S s nr c) ∧ WW c = cst S c ∧ OO c = (c : Int) + 1) ∧ (∀ c, c < nc → TL (nc + c) = rn nr (upc S s nr c) ∧ HD (nc + c) = rn nr (dnc S s nr c) ∧ WW (nc + c) = -cst S c ∧ OO (nc + c) = -(c : Int) - 1) ∧ (∀ r, r < nr → TL (2 * nc + r) = rn nr (dS s r) ∧ HD (2 * nc + r) = rn nr (uS s r) ∧ WW (2 * nc + r) = 0 ∧ OO (2 * nc + r) = 100 + (r : Int)) ∧ (∀ r, r < nr → TL (2 * nc + nr + r) = rn nr (uS s r) ∧ HD (2 * nc + nr + r) = rn nr (dS s r) ∧ WW (2 * nc + nr + r) = 0 ∧ OO (2 * nc + nr + r) = -100 - (r : Int)) := by
    refine ⟨fun i => if i < nc then rn nr (dnc S s nr i) else if i < 2 * nc then rn nr (upc S s nr (i - nc)) else if i < 2 * nc + nr then rn nr (dS s (i - 2 * nc)) else rn nr (uS s (i - (2 * nc + nr))),
      fun i => if i < nc then rn nr (upc S s nr i) else if i < 2 * nc then rn nr (dnc S s nr (i - nc)) else if i < 2 * nc + nr then rn nr (uS s (i - 2 * nc)) else rn nr (dS s (i - (2 * nc + nr))),
      fun i => if i < nc then cst S i else if i < 2 * nc then -cst S (i - nc) else 0,
      fun i => if i < nc then (i : Int) + 1 else if i < 2 * nc then -((i - nc : Nat) : Int) - 1 else if i < 2 * nc + nr then 100 + ((i - 2 * nc : Nat) : Int) else -100 - ((i - (2 * nc + nr) : Nat) : Int), fun c hc => ?_, fun c hc => ?_, fun r hr => ?_, fun r hr => ?_⟩
    · dsimp only
      rw [if_pos hc, if_pos hc, if_pos hc, if_pos hc]
      exact ⟨rfl, rfl, rfl, rfl⟩
    · dsimp only
      have a : ¬ nc + c < nc := by omega
      have b : nc + c < 2 * nc := by omega
      rw [if_neg a, if_neg a, if_neg a, if_neg a, if_pos b, if_pos b, if_pos b, if_pos b, show nc + c - nc = c by omega]
      exact ⟨rfl, rfl, rfl, rfl⟩
    · dsimp only
      have a : ¬ 2 * nc + r < nc := by omega
      have b : ¬ 2 * nc + r < 2 * nc := by omega
      have c : 2 * nc + r < 2 * nc + nr := by omega
      rw [if_neg a, if_neg a, if_neg a, if_neg a, if_neg b, if_neg b, if_neg b, if_neg b, if_pos c, if_pos c, if_pos c, show 2 * nc + r - 2 * nc = r by omega]
      exact ⟨rfl, rfl, rfl, rfl⟩
    · dsimp only
      have a : ¬ 2 * nc + nr + r < nc := by omega
      have b : ¬ 2 * nc + nr + r < 2 * nc := by omega
      have c : ¬ 2 * nc + nr + r < 2 * nc + nr := by omega
      rw [if_neg a, if_neg a, if_neg a, if_neg a, if_neg b, if_neg b, if_neg b, if_neg b, if_neg c, if_neg c, if_neg c, show 2 * nc + nr + r - (2 * nc + nr) = r by omega]
      exact ⟨rfl, rfl, rfl, rfl⟩
  obtain ⟨TL, HD, WW, OO, d1, d2, d3, d4⟩ := dat
  obtain ⟨E, f, h1, h2, h3⟩ := enum_ex (p := fun i => eK S s x nc nr nc nr (TL i) (HD i) (WW i) (OO i)) (2 * nc + 2 * nr)
  refine ⟨E, fun e => TL (f e), fun e => HD (f e), fun e => WW (f e), fun e => OO (f e), h1, fun e he => (h2 e he).2, fun t h v p k => ?_⟩
  have fin : ∀ i, i < 2 * nc + 2 * nr → TL i = t → HD i = h → WW i = v → OO i = p → ∃ e, e < E ∧ TL (f e) = t ∧ HD (f e) = h ∧ WW (f e) = v := fun i hi a b c d => by
    obtain ⟨e, e1, e2⟩ := h3 i hi (by rw [a, b, c, d]; exact k)
    exact ⟨e, e1, by rw [e2]; exact a, by rw [e2]; exact b, by rw [e2]; exact c⟩
  rcases k with ⟨c, a1, a2, a3, a4, a5, a6⟩ | ⟨c, a1, a2, a3, a4, a5, a6⟩ | ⟨r, a1, a2, a3, a4, a5, a6⟩ | ⟨r, a1, a2, a3, a4, a5, a6, a7⟩
  · have := d1 c a1
    exact fin c (by omega) (by rw [this.1, a3]) (by rw [this.2.1, a4]) (by rw [this.2.2.1, a5]) (by rw [this.2.2.2, a6])
  · have := d2 c a1
    exact fin (nc + c) (by omega) (by rw [this.1, a3]) (by rw [this.2.1, a4]) (by rw [this.2.2.1, a5]) (by rw [this.2.2.2, a6])
  · have := d3 r a1
    exact fin (2 * nc + r) (by omega) (by rw [this.1, a3]) (by rw [this.2.1, a4]) (by rw [this.2.2.1, a5]) (by rw [this.2.2.2, a6])
  · have := d4 r a1
    exact fin (2 * nc + nr + r) (by omega) (by rw [this.1, a4]) (by rw [this.2.1, a5]) (by rw [this.2.2.1, a6]) (by rw [this.2.2.2, a7])
/-- a point of least value has prices, and they are not large -/
theorem opt_pot {S : ZS} {s x : Nat → Int} {nc nr : Nat} (hC : zC S nc nr) (hfl : flw S nc nr s) (hx : ptS S s nc nr x) (hm : ∀ y, ptS S s nc nr y → valI (cst S) x nc ≤ valI (cst S) y nc) : ∃ ρ, clP S s x nc nr ρ ∧ ∀ v, v < nr + 1 → -400000 ≤ ρ v ∧ ρ v ≤ 400000 := by
  have h1 := hC.1
  have h2 := hC.2.1
  obtain ⟨E, tl, hd, w, o, e1, e2, e3⟩ := eK_list S s x nc nr
  have hn : ∀ e, e < E → tl e < nr + 1 ∧ hd e < nr + 1 := fun e he => by have := eK_nd hC (e2 e he); omega
  have hw : ∀ e, e < E → -1000 ≤ w e ∧ w e ≤ 1000 := fun e he => by have := eK_nd hC (e2 e he); omega
  obtain ⟨l, d, par, hb⟩ := bfx_ex (n := nr + 1) (by omega) (by omega) hn hw
  have fin : ∀ v, v < nr + 1 → d v < 1000000000000 := fun v hv => by
    obtain ⟨τ, r, t, a1, a2, a3, a4, a5, a6, a7⟩ := hb
    exact a7 v hv trivial
  by_cases hl : l < E
  · exfalso
    obtain ⟨N, n0, hN, P, p1, p2, p3, p4, p5⟩ := bfx_cyc hn hb hl
    have := turn_pt h1 h2 hfl hx (w := fun t => w (par (N (nr + 1 + 1 + t)))) (o := fun t => o (par (N (nr + 1 + 1 + t)))) (M := fun t => N (nr + 1 + 1 + t)) (P := P) (R := 1) (fun t ht => ?_) p3 p4 (by omega) (fun t ht => ?_) p5
    · have := hm _ this.1
      omega
    · have f := hN (nr + 1 + 1 + t)
      have k := e2 _ f.2.1
      rw [f.2.2.1, ← f.2.2.2] at k
      exact k
    · have f := hN (nr + 1 + 1 + t)
      have k := e2 _ f.2.1
      refine ⟨fun c hc e => ?_, fun c hc e => ?_, fun r hr e => ?_⟩
      · rcases k with ⟨c', a1, a2, a3, a4, a5, a6⟩ | ⟨c', a1, a2, a3, a4, a5, a6⟩ | ⟨r, a1, a2, a3, a4, a5, a6⟩ | ⟨r, a1, a2, a3, a4, a5, a6, a7⟩
        · have : c' = c := by omega
          rw [this] at a2; omega
        all_goals omega
      · rcases k with ⟨c', a1, a2, a3, a4, a5, a6⟩ | ⟨c', a1, a2, a3, a4, a5, a6⟩ | ⟨r, a1, a2, a3, a4, a5, a6⟩ | ⟨r, a1, a2, a3, a4, a5, a6, a7⟩
        · omega
        · have : c' = c := by omega
          rw [this] at a2; omega
        all_goals omega
      · rcases k with ⟨c', a1, a2, a3, a4, a5, a6⟩ | ⟨c', a1, a2, a3, a4, a5, a6⟩ | ⟨r', a1, a2, a3, a4, a5, a6⟩ | ⟨r', a1, a2, a3, a4, a5, a6, a7⟩
        · omega
        · omega
        · omega
        · have : r' = r := by omega
          rw [this] at a3; omega
  · have cl := bfx_done (fun e he => (hn e he).1) hb (by omega)
    refine ⟨d, fun t h v p k => ?_, fun v hv => ?_⟩
    · obtain ⟨e, b1, b2, b3, b4⟩ := e3 t h v p k
      have := cl e b1 (fin _ (hn e b1).1)
      rw [b2, b3, b4] at this
      exact this
    · have := fin v hv
      obtain ⟨τ, r, t, a1, a2, a3, a4, a5, a6, a7⟩ := hb
      have bd := kE_w (B := 1000) (k := nr + 1 + 1) (i := E) (E := E) (M := 36) (by omega) (by omega) (by omega) (Nat.le_refl _)
      have b36 : (1000 : Int) * (11 * (36 : Nat)) = 396000 := by decide
      rcases a4 v hv with g | g <;> omega
