/-! sets of rows that show that no point fits -/
theorem sI_split (f : Nat → Int) (n k : Nat) : sI f (n + k) = sI f n + sI (fun j => f (n + j)) k := by
  induction k with
  | zero => simp [sI]
  | succ k ih =>
    rw [← Nat.add_assoc, sI_s, ih, sI_s]
    omega
/-- the sum of a set's rows at a column; what it can be at least and at most; its right sides -/
def aS (g : Nat → Nat → Int) (nr k c : Nat) : Int := sI (fun r => if k.testBit r = true then g r c else 0) nr
def lstS (g : Nat → Nat → Int) (nr nc : Nat) (lo hi : Nat → Int) (k : Nat) : Int := sI (fun c => if 0 < aS g nr k c then aS g nr k c * lo c else aS g nr k c * hi c) nc
def grtS (g : Nat → Nat → Int) (nr nc : Nat) (lo hi : Nat → Int) (k : Nat) : Int := sI (fun c => if 0 < aS g nr k c then aS g nr k c * hi c else aS g nr k c * lo c) nc
def rgtS (b : Nat → Int) (nr k : Nat) : Int := sI (fun r => if k.testBit r = true then b r else 0) nr
def mayS (κ : Nat → Prop) (s : Nat → Int) (nr : Nat) (v : Int) (k : Nat) : Prop := ∀ r, r < nr → κ r → k.testBit r = true → s r = v
def sh1 (g : Nat → Nat → Int) (b s : Nat → Int) (κ : Nat → Prop) (nr nc : Nat) (lo hi : Nat → Int) (k : Nat) : Prop := rgtS b nr k < lstS g nr nc lo hi k ∧ mayS κ s nr 1 k
def sh2 (g : Nat → Nat → Int) (b s : Nat → Int) (κ : Nat → Prop) (nr nc : Nat) (lo hi : Nat → Int) (k : Nat) : Prop := grtS g nr nc lo hi k < rgtS b nr k ∧ mayS κ s nr (-1) k
/-- the same by nodes; the ground is node 8 -/
def bG (b : Nat → Int) (nr v : Nat) : Int := if v < nr then b v else if v = 8 then -sI b nr else 0
def slG (κ : Nat → Prop) (s : Nat → Int) (nr p q : Nat) : Prop := ∃ r, r < nr ∧ κ r ∧ ((s r = 1 ∧ p = 8 ∧ q = r) ∨ (s r = -1 ∧ p = r ∧ q = 8))
/-- columns whose ends are known -/
def ends (g : Nat → Nat → Int) (nr nc : Nat) (u d : Nat → Nat) : Prop := ∀ c, c < nc → u c ≤ 8 ∧ d c ≤ 8 ∧ ∀ r, r < nr → g r c = (if u c = r then 1 else 0) - (if d c = r then 1 else 0)
theorem sI_ext {f : Nat → Int} {n m : Nat} (h : ∀ v, n ≤ v → v < m → f v = 0) (hm : n ≤ m) : sI f m = sI f n := by
  induction m with
  | zero => rw [show n = 0 by omega]
  | succ m ih =>
    by_cases e : n = m + 1
    · rw [e]
    · rw [sI_s, ih (fun v a b => h v a (by omega)) (by omega), h m (by omega) (by omega)]
      omega
theorem bG_set {b : Nat → Int} {nr : Nat} (h2 : nr ≤ 8) (Z : Nat → Bool) : sI (fun v => if Z v = true then bG b nr v else 0) 9 = if Z 8 = true then -sI (fun r => if Z r = true then 0 else b r) nr else sI (fun r => if Z r = true then b r else 0) nr := by
  have e8 : sI (fun v => if Z v = true then bG b nr v else 0) 9 = sI (fun v => if Z v = true then bG b nr v else 0) 8 + (if Z 8 = true then bG b nr 8 else 0) := rfl
  rw [e8, sI_ext (n := nr) (m := 8) (fun v a c => by
    unfold bG
    rw [if_neg (show ¬ v < nr by omega), if_neg (show ¬ v = 8 by omega)]
    split <;> rfl) h2]
  have e1 : sI (fun v => if Z v = true then bG b nr v else 0) nr = sI (fun r => if Z r = true then b r else 0) nr := sI_congr (fun r hr => by unfold bG; rw [if_pos hr])
  have e2 : bG b nr 8 = -sI b nr := by unfold bG; rw [if_neg (by omega), if_pos rfl]
  rw [e1, e2]
  have e3 : sI (fun r => if Z r = true then b r else 0) nr + sI (fun r => if Z r = true then 0 else b r) nr = sI b nr := by
    rw [← sI_add]
    exact sI_congr (fun r _ => by split <;> omega)
  split <;> omega
theorem aS_ends {g : Nat → Nat → Int} {nr nc c k : Nat} {u d : Nat → Nat} (he : ends g nr nc u d) (hc : c < nc) : aS g nr k c = (if u c < nr ∧ k.testBit (u c) = true then 1 else 0) - (if d c < nr ∧ k.testBit (d c) = true then 1 else 0) := by
  have pk : ∀ w : Nat, sI (fun r => if w = r then (if k.testBit w = true then (1 : Int) else 0) else 0) nr = if w < nr ∧ k.testBit w = true then 1 else 0 := fun w => by
    by_cases hw : w < nr
    · rw [sI_pick hw]
      by_cases t : k.testBit w = true
      · rw [if_pos t, if_pos ⟨hw, t⟩]
      · rw [if_neg t, if_neg (fun z => t z.2)]
    · rw [sI_congr (h := fun _ => 0) (fun r hr => if_neg (by omega)), sI_0, if_neg (show ¬ (w < nr ∧ k.testBit w = true) from fun z => hw z.1)]
  rw [← pk (u c), ← pk (d c), ← sI_sub]
  unfold aS
  refine sI_congr (fun r hr => ?_)
  rw [(he c hc).2.2 r hr]
  by_cases w1 : u c = r <;> by_cases w2 : d c = r
  · rw [if_pos w1, if_pos w2, if_pos w1, if_pos w2, w1, w2]; split <;> omega
  · rw [if_pos w1, if_neg w2, if_pos w1, if_neg w2, w1]; split <;> omega
  · rw [if_neg w1, if_pos w2, if_neg w1, if_pos w2, w2]; split <;> omega
  · rw [if_neg w1, if_neg w2, if_neg w1, if_neg w2]; split <;> omega
/-- a set as nodes, on the one side and the other -/
def Z1 (nr k v : Nat) : Bool := decide (v < nr) && k.testBit v
def Z2 (nr k v : Nat) : Bool := !(decide (v < nr) && k.testBit v)
theorem Z1_t {nr k v : Nat} : Z1 nr k v = true ↔ v < nr ∧ k.testBit v = true := by unfold Z1; rw [Bool.and_eq_true, decide_eq_true_eq]
theorem Z2_t {nr k v : Nat} : Z2 nr k v = true ↔ ¬ (v < nr ∧ k.testBit v = true) := by
  unfold Z2
  rw [← Z1_t]
  unfold Z1
  cases (decide (v < nr) && k.testBit v) <;> simp
theorem gS_1 {g : Nat → Nat → Int} {b : Nat → Int} {nr nc k : Nat} {u d : Nat → Nat} {lo hi : Nat → Int} (h2 : nr ≤ 8) (he : ends g nr nc u d) : gS (bG b nr) 9 nc u d lo hi (Z1 nr k) = rgtS b nr k - lstS g nr nc lo hi k := by
  unfold gS
  rw [bG_set h2, if_neg (by rw [Z1_t]; omega)]
  have e1 : sI (fun r => if Z1 nr k r = true then b r else 0) nr = rgtS b nr k := sI_congr (fun r hr => by
    by_cases t : k.testBit r = true
    · rw [if_pos (Z1_t.mpr ⟨hr, t⟩), if_pos t]
    · rw [if_neg (fun z => t (Z1_t.mp z).2), if_neg t])
  have e2 : sI (fun c => phi (lo c) (hi c) (Z1 nr k (u c)) (Z1 nr k (d c))) nc = -lstS g nr nc lo hi k := by
    unfold lstS
    rw [← sI_neg]
    refine sI_congr (fun c hc => ?_)
    rw [aS_ends he hc]
    unfold phi
    by_cases w1 : u c < nr ∧ k.testBit (u c) = true <;> by_cases w2 : d c < nr ∧ k.testBit (d c) = true
    · have z1 := Z1_t.mpr w1
      have z2 := Z1_t.mpr w2
      simp [z1, z2, w1, w2]
    · have z1 := Z1_t.mpr w1
      have z2 : Z1 nr k (d c) = false := by cases h : Z1 nr k (d c); rfl; exact absurd (Z1_t.mp h) w2
      rw [z1, z2, if_pos w1, if_neg w2]; simp
    · have z1 : Z1 nr k (u c) = false := by cases h : Z1 nr k (u c); rfl; exact absurd (Z1_t.mp h) w1
      have z2 := Z1_t.mpr w2
      rw [z1, z2, if_neg w1, if_pos w2]; simp
    · have z1 : Z1 nr k (u c) = false := by cases h : Z1 nr k (u c); rfl; exact absurd (Z1_t.mp h) w1
      have z2 : Z1 nr k (d c) = false := by cases h : Z1 nr k (d c); rfl; exact absurd (Z1_t.mp h) w2
      rw [z1, z2, if_neg w1, if_neg w2]; simp
  rw [e1, e2]
  omega
theorem gS_2 {g : Nat → Nat → Int} {b : Nat → Int} {nr nc k : Nat} {u d : Nat → Nat} {lo hi : Nat → Int} (h2 : nr ≤ 8) (he : ends g nr nc u d) : gS (bG b nr) 9 nc u d lo hi (Z2 nr k) = grtS g nr nc lo hi k - rgtS b nr k := by
  unfold gS
  rw [bG_set h2, if_pos (by rw [Z2_t]; omega)]
  have e1 : sI (fun r => if Z2 nr k r = true then 0 else b r) nr = rgtS b nr k := sI_congr (fun r hr => by
    by_cases t : k.testBit r = true
    · rw [if_neg (fun z => Z2_t.mp z ⟨hr, t⟩), if_pos t]
    · rw [if_pos (Z2_t.mpr (fun z => t z.2)), if_neg t])
  have e2 : sI (fun c => phi (lo c) (hi c) (Z2 nr k (u c)) (Z2 nr k (d c))) nc = grtS g nr nc lo hi k := by
    unfold grtS
    refine sI_congr (fun c hc => ?_)
    rw [aS_ends he hc]
    unfold phi
    by_cases w1 : u c < nr ∧ k.testBit (u c) = true <;> by_cases w2 : d c < nr ∧ k.testBit (d c) = true
    · have z1 : Z2 nr k (u c) = false := by cases h : Z2 nr k (u c); rfl; exact absurd w1 (Z2_t.mp h)
      have z2 : Z2 nr k (d c) = false := by cases h : Z2 nr k (d c); rfl; exact absurd w2 (Z2_t.mp h)
      rw [z1, z2, if_pos w1, if_pos w2]; simp
    · have z1 : Z2 nr k (u c) = false := by cases h : Z2 nr k (u c); rfl; exact absurd w1 (Z2_t.mp h)
      have z2 := Z2_t.mpr w2
      rw [z1, z2, if_pos w1, if_neg w2]; simp
    · have z1 := Z2_t.mpr w1
      have z2 : Z2 nr k (d c) = false := by cases h : Z2 nr k (d c); rfl; exact absurd w2 (Z2_t.mp h)
      rw [z1, z2, if_neg w1, if_pos w2]; simp
    · have z1 := Z2_t.mpr w1
      have z2 := Z2_t.mpr w2
      rw [z1, z2, if_neg w1, if_neg w2]; simp
  rw [e1, e2]
  omega
/-- no set shows anything -/
def noSh (g : Nat → Nat → Int) (b s : Nat → Int) (κ : Nat → Prop) (nr nc : Nat) (lo hi : Nat → Int) : Prop := ∀ k, 0 < k → k < 2 ^ nr → ¬ sh1 g b s κ nr nc lo hi k ∧ ¬ sh2 g b s κ nr nc lo hi k
theorem alw_1 {κ : Nat → Prop} {s : Nat → Int} {nr k : Nat} (hs : sgn nr s) (h2 : nr ≤ 8) : alw (slG κ s nr) (Z1 nr k) ↔ mayS κ s nr 1 k := by
  refine ⟨fun h r hr hk ht => ?_, fun h p q hsl hp => ?_⟩
  · rcases hs r hr with e | e
    · exact e
    · have := h r 8 ⟨r, hr, hk, Or.inr ⟨e, rfl, rfl⟩⟩ (Z1_t.mpr ⟨hr, ht⟩)
      have := (Z1_t.mp this).1
      omega
  · obtain ⟨r, hr, hk, ⟨_, e1, _⟩ | ⟨e, e1, _⟩⟩ := hsl
    · rw [e1] at hp
      have := (Z1_t.mp hp).1
      omega
    · rw [e1] at hp
      have := h r hr hk (Z1_t.mp hp).2
      omega
theorem alw_2 {κ : Nat → Prop} {s : Nat → Int} {nr k : Nat} (hs : sgn nr s) (h2 : nr ≤ 8) : alw (slG κ s nr) (Z2 nr k) ↔ mayS κ s nr (-1) k := by
  refine ⟨fun h r hr hk ht => ?_, fun h p q hsl hp => ?_⟩
  · rcases hs r hr with e | e
    · have := h 8 r ⟨r, hr, hk, Or.inl ⟨e, rfl, rfl⟩⟩ (Z2_t.mpr (by omega))
      exact absurd ⟨hr, ht⟩ (Z2_t.mp this)
    · exact e
  · obtain ⟨r, hr, hk, ⟨e, e1, e2⟩ | ⟨e, e1, e2⟩⟩ := hsl
    · rw [e2]
      refine Z2_t.mpr (fun z => ?_)
      have := h r hr hk z.2
      omega
    · rw [e2]
      exact Z2_t.mpr (by omega)
theorem gS_Zc {b : Nat → Int} {nr nc : Nat} {u d : Nat → Nat} {lo hi : Nat → Int} {Z W : Nat → Bool} (h2 : nr ≤ 8) (hu : ∀ c, c < nc → (u c < nr ∨ u c = 8) ∧ (d c < nr ∨ d c = 8)) (h8 : Z 8 = W 8) (h : ∀ r, r < nr → Z r = W r) : gS (bG b nr) 9 nc u d lo hi Z = gS (bG b nr) 9 nc u d lo hi W := by
  unfold gS
  rw [bG_set h2, bG_set h2, h8, sI_congr (g := fun r => if Z r = true then 0 else b r) (h := fun r => if W r = true then 0 else b r) (fun r hr => by rw [h r hr]), sI_congr (g := fun r => if Z r = true then b r else 0) (h := fun r => if W r = true then b r else 0) (fun r hr => by rw [h r hr])]
  have e : ∀ c, c < nc → Z (u c) = W (u c) ∧ Z (d c) = W (d c) := fun c hc => by
    obtain ⟨a, b⟩ := hu c hc
    refine ⟨?_, ?_⟩
    · rcases a with a | a
      · exact h _ a
      · rw [a]; exact h8
    · rcases b with b | b
      · exact h _ b
      · rw [b]; exact h8
  rw [sI_congr (g := fun c => phi (lo c) (hi c) (Z (u c)) (Z (d c))) (h := fun c => phi (lo c) (hi c) (W (u c)) (W (d c))) (fun c hc => by rw [(e c hc).1, (e c hc).2])]
/-- sets of rows and sets of nodes say the same -/
theorem noSh_iff {g : Nat → Nat → Int} {b s : Nat → Int} {κ : Nat → Prop} {nr nc : Nat} {u d : Nat → Nat} {lo hi : Nat → Int} (hs : sgn nr s) (h2 : nr ≤ 8) (he : ends g nr nc u d) (hu : ∀ c, c < nc → (u c < nr ∨ u c = 8) ∧ (d c < nr ∨ d c = 8)) : noSh g b s κ nr nc lo hi ↔ ∀ Z, alw (slG κ s nr) Z → 0 ≤ gS (bG b nr) 9 nc u d lo hi Z := by
  refine ⟨fun h Z hZ => ?_, fun h k _ _ => ⟨fun w => ?_, fun w => ?_⟩⟩
  · cases z8 : Z 8
    · have e : ∀ r, r < nr → Z r = Z1 nr (mkset Z nr) r := fun r hr => by
        unfold Z1
        rw [mkset_bit Z nr r hr, decide_eq_true hr, Bool.true_and]
      have e8 : Z 8 = Z1 nr (mkset Z nr) 8 := by rw [z8]; unfold Z1; rw [decide_eq_false (show ¬ 8 < nr by omega)]; rfl
      rw [gS_Zc h2 hu e8 e, gS_1 h2 he]
      by_cases k0 : mkset Z nr = 0
      · rw [k0]
        have a0 : ∀ c, aS g nr 0 c = 0 := fun c => by
          unfold aS
          rw [sI_congr (h := fun _ => 0) (fun r _ => by rw [Nat.zero_testBit, if_neg (by decide)]), sI_0]
        have r0 : rgtS b nr 0 = 0 := by
          unfold rgtS
          rw [sI_congr (h := fun _ => 0) (fun r _ => by rw [Nat.zero_testBit, if_neg (by decide)]), sI_0]
        have l0 : lstS g nr nc lo hi 0 = 0 := by
          unfold lstS
          rw [sI_congr (h := fun _ => 0) (fun c _ => by rw [a0]; simp), sI_0]
        rw [r0, l0]
        omega
      · have h1 := (h (mkset Z nr) (by omega) (mkset_lt Z nr)).1
        refine Classical.byContradiction (fun w => h1 ⟨by omega, (alw_1 hs h2).mp (fun p q hsl hp => ?_)⟩)
        obtain ⟨r, hr, hk, ⟨e1, e2, e3⟩ | ⟨e1, e2, e3⟩⟩ := hsl
        · rw [e2, ← e8, z8] at hp; exact absurd hp (by decide)
        · rw [e2, ← e r hr] at hp
          have := hZ r 8 ⟨r, hr, hk, Or.inr ⟨e1, rfl, rfl⟩⟩ hp
          rw [z8] at this
          exact absurd this (by decide)
    · have e : ∀ r, r < nr → Z r = Z2 nr (mkset (fun v => !Z v) nr) r := fun r hr => by
        unfold Z2
        rw [mkset_bit (fun v => !Z v) nr r hr, decide_eq_true hr, Bool.true_and, Bool.not_not]
      have e8 : Z 8 = Z2 nr (mkset (fun v => !Z v) nr) 8 := by rw [z8]; unfold Z2; rw [decide_eq_false (show ¬ 8 < nr by omega)]; rfl
      rw [gS_Zc h2 hu e8 e, gS_2 h2 he]
      by_cases k0 : mkset (fun v => !Z v) nr = 0
      · rw [k0]
        have a0 : ∀ c, aS g nr 0 c = 0 := fun c => by
          unfold aS
          rw [sI_congr (h := fun _ => 0) (fun r _ => by rw [Nat.zero_testBit, if_neg (by decide)]), sI_0]
        have r0 : rgtS b nr 0 = 0 := by
          unfold rgtS
          rw [sI_congr (h := fun _ => 0) (fun r _ => by rw [Nat.zero_testBit, if_neg (by decide)]), sI_0]
        have l0 : grtS g nr nc lo hi 0 = 0 := by
          unfold grtS
          rw [sI_congr (h := fun _ => 0) (fun c _ => by rw [a0]; simp), sI_0]
        rw [r0, l0]
        omega
      · have h1 := (h (mkset (fun v => !Z v) nr) (by omega) (mkset_lt _ nr)).2
        refine Classical.byContradiction (fun w => h1 ⟨by omega, (alw_2 hs h2).mp (fun p q hsl hp => ?_)⟩)
        obtain ⟨r, hr, hk, ⟨e1, e2, e3⟩ | ⟨e1, e2, e3⟩⟩ := hsl
        · rw [e3, ← e r hr]
          exact hZ 8 r ⟨r, hr, hk, Or.inl ⟨e1, rfl, rfl⟩⟩ z8
        · rw [e3, ← e8]; exact z8
  · have := h _ ((alw_1 hs h2).mpr w.2)
    rw [gS_1 h2 he] at this
    have := w.1
    omega
  · have := h _ ((alw_2 hs h2).mpr w.2)
    rw [gS_2 h2 he] at this
    have := w.1
    omega
