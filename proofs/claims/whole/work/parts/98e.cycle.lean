/-! a circulation that is not 0 holds a cycle that takes each arc once at most -/
theorem sI_some {f : Nat → Int} {n a : Nat} (h0 : sI f n = 0) (ha : a < n) (hp : 0 < f a) : ∃ b, b < n ∧ f b < 0 := by
  refine Classical.byContradiction (fun w => ?_)
  have nn : ∀ x, x < n → 0 ≤ f x := fun x hx => Int.not_lt.mp (fun g => w ⟨x, hx, g⟩)
  have e := sI_upd (f := fup f a 0) (g := f) ha (fun x _ hx => (fup_n f 0 hx).symm)
  have p := sI_nn (f := fup f a 0) (n := n) (fun x hx => by
    unfold fup
    split
    · exact Int.le_refl _
    · exact nn x hx)
  rw [fup_e] at e
  omega
def tlz (u d : Nat → Nat) (z : Nat → Int) (a : Nat) : Nat := if 0 < z a then d a else u a
def hdz (u d : Nat → Nat) (z : Nat → Int) (a : Nat) : Nat := if 0 < z a then u a else d a
def sgz (z : Nat → Int) (a : Nat) : Int := if 0 < z a then 1 else -1
theorem nxtz {u d : Nat → Nat} {z : Nat → Int} {m v a : Nat} (h0 : infl u d z m v = 0) (ha : a < m) (hne : z a ≠ 0) (hl : u a ≠ d a) (hv : hdz u d z a = v) : ∃ b, b < m ∧ z b ≠ 0 ∧ u b ≠ d b ∧ tlz u d z b = v := by
  unfold hdz at hv
  obtain ⟨b, hb, hlt⟩ := sI_some h0 ha (by
    by_cases w : 0 < z a
    · rw [if_pos w] at hv
      rw [if_pos hv, if_neg (fun e => hl (hv.trans e.symm))]
      omega
    · rw [if_neg w] at hv
      rw [if_neg (fun e => hl (e.trans hv.symm)), if_pos hv]
      omega)
  refine ⟨b, hb, ?_⟩
  unfold tlz
  by_cases w1 : u b = v <;> by_cases w2 : d b = v
  · rw [if_pos w1, if_pos w2] at hlt; omega
  · rw [if_pos w1, if_neg w2] at hlt
    exact ⟨by omega, fun e => w2 (e.symm.trans w1), by rw [if_neg (by omega)]; exact w1⟩
  · rw [if_neg w1, if_pos w2] at hlt
    exact ⟨by omega, fun e => w1 (e.trans w2), by rw [if_pos (by omega)]; exact w2⟩
  · rw [if_neg w1, if_neg w2] at hlt; omega
theorem least_ex {p : Nat → Prop} (h : ∃ n, p n) : ∃ n, p n ∧ ∀ k, k < n → ¬ p k := by
  obtain ⟨n, hn⟩ := h
  induction n using Nat.strongRecOn with
  | ind n ih =>
    by_cases w : ∃ k, k < n ∧ p k
    · obtain ⟨k, hk, hp⟩ := w
      exact ih k hk hp
    · exact ⟨n, hn, fun k hk hp => w ⟨k, hk, hp⟩⟩
theorem rep_ex {N : Nat → Nat} (h : ∀ k, N k < 9) : ∃ i j, i < j ∧ j ≤ 9 ∧ N i = N j ∧ ∀ p q, p < q → q < j → N p ≠ N q := by
  have ex : ∃ j, j ≤ 9 ∧ ∃ i, i < j ∧ N i = N j := by
    refine Classical.byContradiction (fun w => ?_)
    have ds : ∀ i j, i < j → j ≤ 9 → N i ≠ N j := fun i j a b e => w ⟨j, b, i, a, e⟩
    have ch : ∀ v, ∃ k, ∀ l, l ≤ 9 → N l = v → l = k := fun v => by
      by_cases g : ∃ k, k ≤ 9 ∧ N k = v
      · obtain ⟨k, k9, kv⟩ := g
        refine ⟨k, fun l l9 lv => ?_⟩
        rcases Nat.lt_trichotomy l k with a | a | a
        · exact absurd (lv.trans kv.symm) (ds l k a k9)
        · exact a
        · exact absurd (kv.trans lv.symm) (ds k l a l9)
      · exact ⟨0, fun l l9 lv => absurd ⟨l, l9, lv⟩ g⟩
    obtain ⟨f, hf⟩ := Classical.axiomOfChoice ch
    have := pigeon 9 10 f (fun j hj => ⟨N j, h j, (hf (N j) j (by omega) rfl).symm⟩)
    omega
  obtain ⟨j, ⟨j9, i, hij, e⟩, hm⟩ := least_ex ex
  exact ⟨i, j, hij, j9, e, fun p q hpq hq w => hm q hq ⟨by omega, p, hpq, w⟩⟩
theorem sI_one {P : Nat → Prop} [DecidablePred P] {t : Int} {n : Nat} (h : ∀ i j, i < n → j < n → P i → P j → i = j) : sI (fun l => if P l then t else 0) n = 0 ∧ (∀ l, l < n → ¬ P l) ∨ sI (fun l => if P l then t else 0) n = t ∧ ∃ l, l < n ∧ P l := by
  by_cases w : ∃ l, l < n ∧ P l
  · obtain ⟨l, hl, pl⟩ := w
    refine Or.inr ⟨?_, l, hl, pl⟩
    refine (sI_congr (fun k hk => ?_)).trans (sI_pick (x := t) hl)
    by_cases e : l = k
    · rw [if_pos e, if_pos (e ▸ pl)]
    · rw [if_neg e, if_neg (fun pk => e (h l k hl hk pl pk))]
  · refine Or.inl ⟨?_, fun l hl pl => w ⟨l, hl, pl⟩⟩
    rw [sI_congr (h := fun _ => 0) (fun k hk => if_neg (fun pk => w ⟨k, hk, pk⟩)), sI_0]
theorem cyc {u d : Nat → Nat} {z : Nat → Int} {m : Nat} (hud : ∀ a, a < m → u a < 9 ∧ d a < 9) (h0 : ∀ v, v < 9 → infl u d z m v = 0) (hne : ∃ a, a < m ∧ z a ≠ 0) : ∃ ζ : Nat → Int, (∀ v, v < 9 → infl u d ζ m v = 0) ∧ (∃ a, a < m ∧ ζ a ≠ 0) ∧ ∀ a, a < m → ζ a = 0 ∨ (ζ a = 1 ∧ 0 < z a) ∨ (ζ a = -1 ∧ z a < 0) := by
  obtain ⟨a0, ha0, hz0⟩ := hne
  by_cases hl : u a0 = d a0
  · -- a column without a term
    refine ⟨fup (fun _ => 0) a0 (sgz z a0), fun v hv => ?_, ⟨a0, ha0, ?_⟩, fun a ha => ?_⟩
    · rw [infl_bump (x := fun _ => (0 : Int)) (y := fup (fun _ => 0) a0 (sgz z a0)) ha0 (fun k _ hk => fup_n _ _ hk), hl]
      unfold infl
      rw [sI_congr (h := fun _ => 0) (fun c _ => by split <;> split <;> rfl), sI_0]
      omega
    · rw [fup_e]; unfold sgz; split <;> omega
    · by_cases e : a = a0
      · subst e
        rw [fup_e]
        unfold sgz
        split
        · exact Or.inr (Or.inl ⟨rfl, by assumption⟩)
        · exact Or.inr (Or.inr ⟨rfl, by omega⟩)
      · rw [fup_n _ _ e]; exact Or.inl rfl
  · have ch : ∀ v, ∃ b, (v < 9 ∧ ∃ a, a < m ∧ z a ≠ 0 ∧ u a ≠ d a ∧ hdz u d z a = v) → (b < m ∧ z b ≠ 0 ∧ u b ≠ d b ∧ tlz u d z b = v) := fun v => by
      by_cases g : v < 9 ∧ ∃ a, a < m ∧ z a ≠ 0 ∧ u a ≠ d a ∧ hdz u d z a = v
      · obtain ⟨v9, a, a1, a2, a3, a4⟩ := g
        obtain ⟨b, hb⟩ := nxtz (h0 v v9) a1 a2 a3 a4
        exact ⟨b, fun _ => hb⟩
      · exact ⟨0, fun w => absurd w g⟩
    obtain ⟨G, hG⟩ := Classical.axiomOfChoice ch
    have h9 : ∀ a, a < m → hdz u d z a < 9 := fun a ha => by
      have := hud a ha
      unfold hdz
      split <;> omega
    have gd : ∀ k, itr (fun v => hdz u d z (G v)) k (hdz u d z a0) < 9 ∧ ∃ a, a < m ∧ z a ≠ 0 ∧ u a ≠ d a ∧ hdz u d z a = itr (fun v => hdz u d z (G v)) k (hdz u d z a0) := fun k => by
      induction k with
      | zero => exact ⟨h9 a0 ha0, a0, ha0, hz0, hl, rfl⟩
      | succ k ih =>
        have := hG _ ih
        rw [itr_s]
        exact ⟨h9 _ this.1, _, this.1, this.2.1, this.2.2.1, rfl⟩
    generalize hN : (fun k => itr (fun v => hdz u d z (G v)) k (hdz u d z a0)) = N
    have gN : ∀ k, N k < 9 ∧ ∃ a, a < m ∧ z a ≠ 0 ∧ u a ≠ d a ∧ hdz u d z a = N k := fun k => by rw [← hN]; exact gd k
    have sN : ∀ k, N (k + 1) = hdz u d z (G (N k)) := fun k => by rw [← hN]; exact itr_s _ _ _
    have aN : ∀ k, G (N k) < m ∧ z (G (N k)) ≠ 0 ∧ u (G (N k)) ≠ d (G (N k)) ∧ tlz u d z (G (N k)) = N k := fun k => hG _ (gN k)
    obtain ⟨i, j, hij, _, eij, hd⟩ := rep_ex (fun k => (gN k).1)
    have fl : ∀ k v, v < 9 → infl u d (fun a => sI (fun l => if G (N (i + l)) = a then sgz z a else 0) k) m v = (if N (i + k) = v then 1 else 0) - (if N i = v then 1 else 0) := fun k v hv => by
      induction k with
      | zero =>
        have : infl u d (fun a => sI (fun l => if G (N (i + l)) = a then sgz z a else 0) 0) m v = 0 := by
          unfold infl
          rw [sI_congr (h := fun _ => 0) (fun c _ => by show (if u c = v then (0 : Int) else 0) - (if d c = v then 0 else 0) = 0; split <;> split <;> rfl), sI_0]
        rw [this, Nat.add_zero]
        omega
      | succ k ih =>
        have an := aN (i + k)
        have sn := sN (i + k)
        rw [infl_bump (x := fun a => sI (fun l => if G (N (i + l)) = a then sgz z a else 0) k) an.1 (fun b _ hb => by
          show sI _ (k + 1) = _
          rw [sI_s, if_neg (Ne.symm hb)]
          omega), ih]
        have e : sI (fun l => if G (N (i + l)) = G (N (i + k)) then sgz z (G (N (i + k))) else 0) (k + 1) - sI (fun l => if G (N (i + l)) = G (N (i + k)) then sgz z (G (N (i + k))) else 0) k = sgz z (G (N (i + k))) := by
          rw [sI_s, if_pos rfl]; omega
        show _ + ((if u (G (N (i + k))) = v then sI (fun l => if G (N (i + l)) = G (N (i + k)) then sgz z (G (N (i + k))) else 0) (k + 1) - sI (fun l => if G (N (i + l)) = G (N (i + k)) then sgz z (G (N (i + k))) else 0) k else 0) - (if d (G (N (i + k))) = v then sI (fun l => if G (N (i + l)) = G (N (i + k)) then sgz z (G (N (i + k))) else 0) (k + 1) - sI (fun l => if G (N (i + l)) = G (N (i + k)) then sgz z (G (N (i + k))) else 0) k else 0)) = _
        rw [e, show i + (k + 1) = i + k + 1 by omega, sn]
        have t4 := an.2.2.2
        unfold tlz at t4
        unfold hdz sgz
        by_cases w : 0 < z (G (N (i + k)))
        · rw [if_pos w] at t4
          rw [if_pos w, if_pos w, t4]
          omega
        · rw [if_neg w] at t4
          rw [if_neg w, if_neg w, t4]
          split <;> split <;> split <;> omega
    have inj : ∀ p q, p < j - i → q < j - i → G (N (i + p)) = G (N (i + q)) → p = q := fun p q hp hq e => by
      have e2 : N (i + p) = N (i + q) := by rw [← (aN (i + p)).2.2.2, ← (aN (i + q)).2.2.2, e]
      rcases Nat.lt_trichotomy p q with a | a | a
      · exact absurd e2 (hd _ _ (by omega) (by omega))
      · exact a
      · exact absurd e2.symm (hd _ _ (by omega) (by omega))
    refine ⟨fun a => sI (fun l => if G (N (i + l)) = a then sgz z a else 0) (j - i), fun v hv => ?_, ⟨G (N i), (aN i).1, ?_⟩, fun a ha => ?_⟩
    · rw [fl (j - i) v hv, show i + (j - i) = j by omega, eij]
      omega
    · rcases sI_one (P := fun l => G (N (i + l)) = G (N i)) (t := sgz z (G (N i))) (n := j - i) (fun p q hp hq a b => inj p q hp hq (a.trans b.symm)) with ⟨_, w⟩ | ⟨w, _⟩
      · exact absurd rfl (w 0 (by omega))
      · show sI (fun l => if G (N (i + l)) = G (N i) then sgz z (G (N i)) else 0) (j - i) ≠ 0
        rw [w]; unfold sgz; split <;> omega
    · rcases sI_one (P := fun l => G (N (i + l)) = a) (t := sgz z a) (n := j - i) (fun p q hp hq x y => inj p q hp hq (x.trans y.symm)) with ⟨w, _⟩ | ⟨w, l, _, e⟩
      · exact Or.inl w
      · have hz := (aN (i + l)).2.1
        rw [e] at hz
        show sI (fun l => if G (N (i + l)) = a then sgz z a else 0) (j - i) = 0 ∨ (sI (fun l => if G (N (i + l)) = a then sgz z a else 0) (j - i) = 1 ∧ _) ∨ (sI (fun l => if G (N (i + l)) = a then sgz z a else 0) (j - i) = -1 ∧ _)
        rw [w]
        unfold sgz
        by_cases g : 0 < z a
        · rw [if_pos g]; exact Or.inr (Or.inl ⟨rfl, g⟩)
        · rw [if_neg g]; exact Or.inr (Or.inr ⟨rfl, by omega⟩)
/-- the first point, by powers of two -/
def lexlt (x y : Nat → Int) (n : Nat) : Prop := ∃ k, k < n ∧ x k < y k ∧ ∀ j, j < k → x j = y j
theorem pw_half : ∀ c, c < 9 → pwc c = 2 * pwc (c + 1) := by decide +kernel
theorem pw_lex {ζ : Nat → Int} {n k : Nat} (hn : n ≤ 10) (h : ∀ c, c < n → -1 ≤ ζ c ∧ ζ c ≤ 1) (hk : k < n) (hk1 : ζ k = -1) (h0 : ∀ j, j < k → ζ j = 0) : sI (fun c => pwc c * ζ c) n < 0 := by
  have cl : ∀ i, k + i + 1 ≤ n → sI (fun c => pwc c * ζ c) (k + i + 1) ≤ -pwc (k + i) := fun i => by
    induction i with
    | zero =>
      intro hi
      have e : sI (fun c => pwc c * ζ c) k = 0 := by
        rw [sI_congr (h := fun _ => 0) (fun c hc => by rw [h0 c hc, Int.mul_zero]), sI_0]
      rw [sI_s, Nat.add_zero, e, hk1]
      omega
    | succ i ih =>
      intro hi
      have i1 := ih (by omega)
      have p := pw_half (k + i) (by omega)
      have q := pw_bd (k + i + 1) (by omega)
      have z := h (k + i + 1) (by omega)
      have m : pwc (k + i + 1) * ζ (k + i + 1) ≤ pwc (k + i + 1) := by
        have := Int.mul_le_mul_of_nonneg_left z.2 (show 0 ≤ pwc (k + i + 1) by omega)
        omega
      rw [show k + (i + 1) + 1 = k + i + 1 + 1 by omega, sI_s, show k + (i + 1) = k + i + 1 by omega]
      omega
  have c1 := cl (n - k - 1) (by omega)
  rw [show k + (n - k - 1) + 1 = n by omega, show k + (n - k - 1) = n - 1 by omega] at c1
  have := pw_bd (n - 1) (by omega)
  omega
def pwr (n : Nat) : Int := ((1024 / 2 ^ n : Nat) : Int)
theorem pwr_s : ∀ c, c < 10 → pwr c = pwc c + pwr (c + 1) ∧ 1 ≤ pwr (c + 1) := by decide +kernel
theorem pw_all {ζ : Nat → Int} {n : Nat} (hn : n ≤ 10) (h : ∀ c, c < n → -1 ≤ ζ c ∧ ζ c ≤ 1) : sI (fun c => pwc c * ζ c) n ≤ 1023 := by
  have cl : ∀ i, i ≤ n → sI (fun c => pwc c * ζ c) i ≤ 1024 - pwr i ∧ 1 ≤ pwr i := fun i => by
    induction i with
    | zero => intro _; exact ⟨(by decide : (0 : Int) ≤ 1024 - pwr 0), by decide⟩
    | succ i ih =>
      intro hi
      have i1 := ih (by omega)
      have p := pwr_s i (by omega)
      have q := pw_bd i (by omega)
      have z := h i (by omega)
      have m : pwc i * ζ i ≤ pwc i := by
        have := Int.mul_le_mul_of_nonneg_left z.2 (show 0 ≤ pwc i by omega)
        omega
      rw [sI_s]
      omega
  have := cl n (Nat.le_refl _)
  omega
theorem first_ne {ζ : Nat → Int} {n : Nat} (h : ∃ c, c < n ∧ ζ c ≠ 0) : ∃ k, k < n ∧ ζ k ≠ 0 ∧ ∀ j, j < k → ζ j = 0 := by
  obtain ⟨k, ⟨h1, h2⟩, h3⟩ := least_ex h
  refine ⟨k, h1, h2, fun j hj => ?_⟩
  exact Classical.byContradiction (fun w => h3 j hj ⟨by omega, w⟩)
