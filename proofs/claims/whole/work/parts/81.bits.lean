/-! sets of rows as numbers -/
def sb (o m : Nat) : Prop := ∀ r, o.testBit r = true → m.testBit r = true
theorem sb_half {o m : Nat} (h : sb o m) : sb (o / 2) (m / 2) := fun r hr => by
  rw [← Nat.testBit_succ] at hr ⊢
  exact h _ hr
theorem sb_mod {o m : Nat} (h : sb o m) : o % 2 ≤ m % 2 := by
  have := h 0
  rw [Nat.testBit_zero, Nat.testBit_zero, decide_eq_true_eq, decide_eq_true_eq] at this
  omega
theorem sb_le (o : Nat) : ∀ m, sb o m → o ≤ m := by
  induction o using Nat.strongRecOn with
  | ind o ih =>
    intro m h
    by_cases e : o = 0
    · omega
    · have h1 := ih (o / 2) (by omega) (m / 2) (sb_half h)
      have h2 := sb_mod h
      omega
theorem sub_bit (r : Nat) : ∀ o m, sb o m → (m - o).testBit r = (m.testBit r && !o.testBit r) := by
  induction r with
  | zero =>
    intro o m h
    have h1 := sb_mod h
    have h2 := sb_le o m h
    rw [Nat.testBit_zero, Nat.testBit_zero, Nat.testBit_zero]
    have h3 : (m - o) % 2 = m % 2 - o % 2 := by omega
    rcases Nat.mod_two_eq_zero_or_one m with a | a <;> rcases Nat.mod_two_eq_zero_or_one o with b | b
    · rw [h3, a, b]; rfl
    · omega
    · rw [h3, a, b]; rfl
    · rw [h3, a, b]; rfl
  | succ r ih =>
    intro o m h
    have h1 := sb_mod h
    have h2 := sb_le o m h
    rw [Nat.testBit_succ, Nat.testBit_succ, Nat.testBit_succ, show (m - o) / 2 = m / 2 - o / 2 by omega]
    exact ih _ _ (sb_half h)
theorem and_mod2 (a b : Nat) : (a &&& b) % 2 = (a % 2) * (b % 2) := by
  have h := Nat.testBit_and a b 0
  rw [Nat.testBit_zero, Nat.testBit_zero, Nat.testBit_zero] at h
  rcases Nat.mod_two_eq_zero_or_one a with x | x <;> rcases Nat.mod_two_eq_zero_or_one b with y | y <;> rcases Nat.mod_two_eq_zero_or_one (a &&& b) with z | z <;> rw [x, y, z] at h ⊢ <;> first | rfl | exact absurd h (by decide)
theorem and_sb {o m : Nat} (h : sb o m) : o &&& m = o := Nat.eq_of_testBit_eq (fun i => by
  rw [Nat.testBit_and]
  cases e : o.testBit i
  · rfl
  · rw [h i e]; rfl)
/-- the submask that comes next below -/
theorem nxt_sub (o : Nat) : ∀ m t, sb o m → sb t m → t < o → t ≤ ((o - 1) &&& m) := by
  induction o using Nat.strongRecOn with
  | ind o ih =>
    intro m t ho ht hlt
    have hm : ((o - 1) &&& m) / 2 = (o - 1) / 2 &&& m / 2 := Nat.and_div_two
    have h2 := and_mod2 (o - 1) m
    have a1 := sb_mod ho
    have a2 := sb_mod ht
    revert hm h2
    generalize ((o - 1) &&& m) = X
    rcases Nat.mod_two_eq_zero_or_one o with e | e
    · have q : (o - 1) / 2 = o / 2 - 1 := by omega
      have q2 : (o - 1) % 2 = 1 := by omega
      rw [q, q2, Nat.one_mul]
      have h3 := ih (o / 2) (by omega) (m / 2) (t / 2) (sb_half ho) (sb_half ht) (by omega)
      revert h3
      generalize ((o / 2 - 1) &&& (m / 2)) = Y
      intro h3 hm h2
      omega
    · have q : (o - 1) / 2 = o / 2 := by omega
      have q2 : (o - 1) % 2 = 0 := by omega
      rw [q, and_sb (sb_half ho), q2, Nat.zero_mul]
      intro hm h2
      omega
theorem sb_and (a m : Nat) : sb (a &&& m) m := fun r h => by
  rw [Nat.testBit_and] at h
  cases e : m.testBit r
  · rw [e, Bool.and_false] at h; exact absurd h (by decide)
  · rfl
theorem nI_and (a b : Nat) : nI (a &&& b) = nI a &&& nI b := congrArg Int32.ofBitVec (BitVec.ofNat_and (w := 32) (x := a) (y := b))
theorem nI_or (a b : Nat) : nI (a ||| b) = nI a ||| nI b := congrArg Int32.ofBitVec (BitVec.ofNat_or (w := 32) (x := a) (y := b))
theorem nI_xor (a b : Nat) : nI (a ^^^ b) = nI a ^^^ nI b := congrArg Int32.ofBitVec (BitVec.ofNat_xor (w := 32) (x := a) (y := b))
theorem sub_at {j s : Nat} (hj : j < 256) (hs : s < 256) : ((nI j &&& (nI s ^^^ (-1 : Int32))) = 0) ↔ sb j s := by
  have em : (-1 : Int32) = nI (2 ^ 32 - 1) := by decide
  rw [em, ← nI_xor, ← nI_and]
  have hX : (j &&& (s ^^^ (2 ^ 32 - 1))) ≤ j := Nat.and_le_left
  have hb : ∀ r, (j &&& (s ^^^ (2 ^ 32 - 1))).testBit r = (j.testBit r && !s.testBit r) := by
    intro r
    rw [Nat.testBit_and, Nat.testBit_xor, Nat.testBit_two_pow_sub_one]
    by_cases h : r < 32
    · rw [decide_eq_true h]; cases j.testBit r <;> cases s.testBit r <;> rfl
    · have : j.testBit r = false := Nat.testBit_lt_two_pow (by have := Nat.pow_le_pow_right (n := 2) (by omega) (by omega : 8 ≤ r); omega)
      rw [this]; rfl
  revert hX hb
  generalize (j &&& (s ^^^ (2 ^ 32 - 1))) = X
  intro hX hb
  have e0 : nI X = 0 ↔ X = 0 := by
    show nI X = nI 0 ↔ X = 0
    exact nI_eq (by omega) (by omega)
  rw [e0]
  refine ⟨fun h r hr => ?_, fun h => Nat.eq_of_testBit_eq (fun r => ?_)⟩
  · have := hb r
    rw [h, Nat.zero_testBit, hr] at this
    cases hs2 : s.testBit r
    · rw [hs2] at this; exact absurd this (by decide)
    · rfl
  · rw [hb, Nat.zero_testBit]
    cases hj2 : j.testBit r
    · rfl
    · rw [h r hj2]; rfl
theorem add_bit {a k : Nat} (h : a < 2 ^ k) (r : Nat) : (a + 2 ^ k).testBit r = (a.testBit r || decide (r = k)) := by
  rw [Nat.add_comm]
  by_cases e : r = k
  · rw [e, Nat.testBit_two_pow_add_eq, Nat.testBit_lt_two_pow h, decide_eq_true rfl]; rfl
  · rw [decide_eq_false e, Bool.or_false]
    by_cases g : r < k
    · rw [Nat.testBit_two_pow_add_gt g]
    · have h1 : 2 ^ (k + 1) ≤ 2 ^ r := Nat.pow_le_pow_right (by omega) (by omega)
      rw [Nat.pow_succ] at h1
      rw [Nat.testBit_lt_two_pow (by omega), Nat.testBit_lt_two_pow (by omega)]
theorem tb_lt {a k r : Nat} (h : a < 2 ^ k) (g : a.testBit r = true) : r < k := by
  refine Classical.byContradiction (fun w => ?_)
  have h1 : 2 ^ k ≤ 2 ^ r := Nat.pow_le_pow_right (by omega) (by omega)
  rw [Nat.testBit_lt_two_pow (by omega)] at g
  exact absurd g (by decide)
theorem lt_of_tb {a k : Nat} (h : ∀ r, a.testBit r = true → r < k) : a < 2 ^ k := Nat.lt_pow_two_of_testBit a (fun i hi => by
  cases e : a.testBit i
  · rfl
  · have := h i e; omega)
theorem sb_lt {o m k : Nat} (h : sb o m) (hm : m < 2 ^ k) : o < 2 ^ k := by
  have := sb_le o m h
  omega
theorem mkset_tb (f : Nat → Bool) (n r : Nat) : (mkset f n).testBit r = (f r && decide (r < n)) := by
  by_cases h : r < n
  · rw [mkset_bit f n r h, decide_eq_true h, Bool.and_true]
  · rw [decide_eq_false h, Bool.and_false]
    cases e : (mkset f n).testBit r
    · rfl
    · exact absurd (tb_lt (mkset_lt f n) e) h
/-- parting a set of rows -/
def pS (A : Nat → Nat → Int) (c s t r : Nat) : Int := if s.testBit r = true then (if t.testBit r = true then -A r c else A r c) else 0
def evn (A : Nat → Nat → Int) (nr nc s t : Nat) : Prop := ∀ c, c < nc → -1 ≤ sI (pS A c s t) nr ∧ sI (pS A c s t) nr ≤ 1
def okS (A : Nat → Nat → Int) (nr nc s : Nat) : Prop := ∃ t, sb t s ∧ evn A nr nc s t
def pT (A : Nat → Nat → Int) (c o p r : Nat) : Int := if o.testBit r = true then A r c else if p.testBit r = true then -A r c else 0
def prt (A : Nat → Nat → Int) (nr nc o p : Nat) : Prop := ∀ c, c < nc → -1 ≤ sI (pT A c o p) nr ∧ sI (pT A c o p) nr ≤ 1
theorem sI_neg (g : Nat → Int) (n : Nat) : sI (fun r => -g r) n = -sI g n := by
  induction n with
  | zero => rfl
  | succ n ih => rw [sI_s, sI_s, ih]; omega
theorem okS_iff {A : Nat → Nat → Int} {nr nc o k : Nat} (ho : o < 2 ^ k) : okS A nr nc (o + 2 ^ k) ↔ ∃ a, sb a o ∧ prt A nr nc a ((o - a) + 2 ^ k) := by
  have other : ∀ a, sb a o → ∀ r, ((o - a) + 2 ^ k).testBit r = ((o.testBit r && !a.testBit r) || decide (r = k)) := fun a ha r => by rw [add_bit (by omega), sub_bit r a o ha]
  refine ⟨fun ⟨t, ht, he⟩ => ?_, fun ⟨a, ha, hp⟩ => ?_⟩
  · by_cases g : t.testBit k = true
    · have ha : sb (mkset (fun r => o.testBit r && !t.testBit r) k) o := fun r hr => by
        rw [mkset_tb] at hr
        cases e : o.testBit r
        · rw [e] at hr; simp at hr
        · rfl
      refine ⟨_, ha, fun c hc => ?_⟩
      have hc := he c hc
      rw [sI_congr (g := pT A c _ _) (h := pS A c (o + 2 ^ k) t) (fun r _ => ?_)]
      · exact hc
      · unfold pT pS
        rw [other _ ha r, mkset_tb, add_bit ho r]
        by_cases e : r = k
        · subst e
          have e1 : o.testBit r = false := Nat.testBit_lt_two_pow ho
          rw [g, e1]
          simp
        · have e3 : o.testBit r = true → r < k := fun w => tb_lt ho w
          cases e1 : o.testBit r
          · simp [e]
          · have := e3 e1
            cases e2 : t.testBit r <;> simp [e, this]
    · have g' : t.testBit k = false := by
        cases e : t.testBit k
        · rfl
        · exact absurd e g
      have ha : sb t o := fun r hr => by
        have h1 := ht r hr
        rw [add_bit ho r] at h1
        by_cases e : r = k
        · rw [e] at hr; exact absurd hr g
        · rw [decide_eq_false e, Bool.or_false] at h1; exact h1
      refine ⟨t, ha, fun c hc => ?_⟩
      have hc := he c hc
      rw [sI_congr (g := pT A c _ _) (h := fun r => -pS A c (o + 2 ^ k) t r) (fun r _ => ?_), sI_neg]
      · omega
      · unfold pT pS
        rw [other _ ha r, add_bit ho r]
        by_cases e : r = k
        · subst e
          rw [g']
          simp
        · have e3 := ha r
          cases e1 : o.testBit r
          · cases e2 : t.testBit r
            · simp [e]
            · rw [e1] at e3; exact absurd (e3 e2) (by decide)
          · cases e2 : t.testBit r <;> simp [e]
  · refine ⟨(o - a) + 2 ^ k, fun r hr => ?_, fun c hc => ?_⟩
    · rw [other a ha r] at hr
      rw [add_bit ho r]
      cases e1 : o.testBit r
      · rw [e1] at hr; simpa using hr
      · rfl
    · have hc := hp c hc
      rw [sI_congr (g := pS A c _ _) (h := pT A c a ((o - a) + 2 ^ k)) (fun r _ => ?_)]
      · exact hc
      · unfold pT pS
        rw [other a ha r, add_bit ho r]
        have e3 := ha r
        by_cases e : r = k
        · subst e
          have e1 : o.testBit r = false := Nat.testBit_lt_two_pow ho
          rw [e1] at e3
          cases e2 : a.testBit r
          · simp
          · exact absurd (e3 e2) (by decide)
        · cases e1 : o.testBit r
          · cases e2 : a.testBit r
            · simp [e]
            · rw [e1] at e3; exact absurd (e3 e2) (by decide)
          · cases e2 : a.testBit r <;> simp [e]
/-- a set that is one row, and that row not all units -/
theorem okS_one {A : Nat → Nat → Int} {nr nc k : Nat} (hk : k < nr) (h : okS A nr nc (2 ^ k)) : ∀ c, c < nc → -1 ≤ A k c ∧ A k c ≤ 1 := by
  intro c hc
  obtain ⟨a, ha, hp⟩ := (okS_iff (A := A) (nr := nr) (nc := nc) (o := 0) (k := k) (Nat.two_pow_pos k)).mp (by rw [Nat.zero_add]; exact h)
  have e0 : a = 0 := by
    have := sb_le a 0 ha
    omega
  subst e0
  have hp := hp c hc
  have e1 : sI (pT A c 0 (0 - 0 + 2 ^ k)) nr = -A k c := by
    have hb : ∀ r, (0 - 0 + 2 ^ k).testBit r = decide (r = k) := fun r => by
      rw [Nat.zero_sub, add_bit (Nat.two_pow_pos k), Nat.zero_testBit, Bool.false_or]
    have h2 := sI_two (g := pT A c 0 (0 - 0 + 2 ^ k)) (n := nr) (a := k) (b := nr + 1) (by omega) (fun r hr e1 e2 => by
      unfold pT
      rw [Nat.zero_testBit, if_neg (by decide), hb, decide_eq_false e1, if_neg (by decide)])
    rw [h2, if_pos hk, if_neg (by omega), Int.add_zero]
    unfold pT
    rw [Nat.zero_testBit, if_neg (by decide), hb, decide_eq_true rfl, if_pos rfl]
  rw [e1] at hp
  omega
def fS (A : Nat → Nat → Int) (nr nc : Nat) (x : Int32) : Prop := (∃ s, 0 < s ∧ s < 2 ^ nr ∧ ¬ okS A nr nc s ∧ (∀ t, 0 < t → t < s → okS A nr nc t) ∧ x = nI s) ∨ ((∀ s, 0 < s → s < 2 ^ nr → okS A nr nc s) ∧ x = -1)
theorem fS.uniq {A : Nat → Nat → Int} {nr nc : Nat} {x y : Int32} (h : fS A nr nc x) (g : fS A nr nc y) : x = y := by
  rcases h with ⟨s, s1, s2, s3, s4, rfl⟩ | ⟨s4, rfl⟩ <;> rcases g with ⟨t, t1, t2, t3, t4, rfl⟩ | ⟨t4, rfl⟩
  · rcases Nat.lt_trichotomy s t with w | w | w
    · exact absurd (t4 s s1 w) s3
    · rw [w]
    · exact absurd (s4 t t1 w) t3
  · exact absurd (t4 s s1 s2) s3
  · exact absurd (s4 t t1 t2) t3
  · rfl
