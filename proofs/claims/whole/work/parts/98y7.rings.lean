/-! rings as rows: at a node two columns at most -/
def iv (a v : Nat) : Int := if a = v then 1 else 0
def hkdv (eu ev : Nat → Nat) (z : Nat → Int) (v : Nat) : Int := sI (fun c => (iv (ev c) v - iv (eu c) v) * z c) 10
def hkpl (eu ev : Nat → Nat) (c d : Nat) : Prop := (eu c = eu d ∧ ev c = ev d) ∨ (eu c = ev d ∧ ev c = eu d)
def hkRG (eu ev : Nat → Nat) (z : Nat → Int) : Prop := (∀ c, c < 10 → -1 ≤ z c ∧ z c ≤ 1) ∧
  (∀ v, v < 9 → hkdv eu ev z v * hkdv eu ev z v + sI (fun c => if eu c = v ∨ ev c = v then z c * z c else 0) 10 ≤ 2) ∧
  (∃ a b, a < 9 ∧ b < 9 ∧ ∀ v, v < 9 → hkdv eu ev z v = iv a v - iv b v) ∧
  (∀ c d, c < 10 → d < 10 → c ≠ d → hkpl eu ev c d → z c ≠ 0 → z d ≠ 0 → ∀ e, e < 10 → e ≠ c → e ≠ d → z e = 0) ∧
  ∀ A : Nat → Prop, (∀ c, c < 10 → (A (eu c) ↔ A (ev c))) → (∀ c, c < 10 → z c ≠ 0 → A (eu c)) ∨ (∀ c, c < 10 → z c ≠ 0 → ¬ A (eu c))
/-- the ends of a column, loops laid between 0 and 1 -/
def rgu (T H : Nat → Nat) (nc c : Nat) : Nat := if c < nc ∧ T c ≠ H c then T c else 0
def rgv (T H : Nat → Nat) (nc c : Nat) : Nat := if c < nc ∧ T c ≠ H c then H c else 1
theorem uc_1 {o : Int} {c : Nat} (h : uc o c ≠ 0) : o = (c : Int) + 1 ∧ uc o c = 1 ∨ o = -(c : Int) - 1 ∧ uc o c = -1 := by
  unfold uc at *
  by_cases e1 : o = (c : Int) + 1
  · left; rw [if_pos e1]; exact ⟨e1, rfl⟩
  · by_cases e2 : o = -(c : Int) - 1
    · right; rw [if_neg e1, if_pos e2]; exact ⟨e2, rfl⟩
    · rw [if_neg e1, if_neg e2] at h; exact absurd rfl h
theorem uc_n {o : Int} {c d : Nat} (h : o = (c : Int) + 1 ∨ o = -(c : Int) - 1) (hd : d ≠ c) : uc o d = 0 := by
  unfold uc
  rw [if_neg (by omega), if_neg (by omega)]
theorem uc_s {o : Int} {c : Nat} (h : o = (c : Int) + 1 ∨ o = -(c : Int) - 1) : uc o c = 1 ∧ o = (c : Int) + 1 ∨ uc o c = -1 ∧ o = -(c : Int) - 1 := by
  unfold uc
  rcases h with e | e
  · left; rw [if_pos e]; exact ⟨rfl, e⟩
  · right; rw [if_neg (by omega), if_pos e]; exact ⟨rfl, e⟩
theorem uc_b {o : Int} {c : Nat} (hc : c < 10) (h : o ≤ -100 ∨ 100 ≤ o) : uc o c = 0 := by
  unfold uc
  rw [if_neg (by omega), if_neg (by omega)]
theorem rg_op {a b a' b' ec fc ed fd : Nat} (hpl : (ec = ed ∧ fc = fd) ∨ (ec = fd ∧ fc = ed)) (k1 : (ec = b ∧ fc = a) ∨ (ec = a ∧ fc = b)) (k2 : (ed = b' ∧ fd = a') ∨ (ed = a' ∧ fd = b')) (no : a ≠ a') (no2 : b ≠ b') : b = a' ∧ b' = a := by omega
theorem sI_ne {f : Nat → Int} {n : Nat} (h : sI f n ≠ 0) : ∃ t, t < n ∧ f t ≠ 0 := by
  refine Classical.byContradiction fun g => h ?_
  rw [sI_congr (h := fun _ => 0) (fun t ht => Classical.byContradiction fun q => g ⟨t, ht, q⟩), sI_0]
set_option maxHeartbeats 1000000 in
theorem rg_abs {P nc nr : Nat} {M T H : Nat → Nat} {o : Nat → Int} (h1 : nc ≤ 10) (h2 : nr ≤ 8) (hP : 1 ≤ P) (hT : ∀ c, c < nc → T c ≤ nr ∧ H c ≤ nr)
    (hE : ∀ t, t < P → (∃ c, c < nc ∧ o t = (c : Int) + 1 ∧ M (t + 1) = T c ∧ M t = H c) ∨ (∃ c, c < nc ∧ o t = -(c : Int) - 1 ∧ M (t + 1) = H c ∧ M t = T c) ∨ ((o t ≤ -100 ∨ 100 ≤ o t) ∧ ((M t = nr ∧ M (t + 1) ≠ nr ∧ M (t + 1) ≤ nr) ∨ (M t ≠ nr ∧ M (t + 1) = nr ∧ M t ≤ nr))))
    (hM : M P = M 0) (hd : ∀ p q, p < q → q < P → M p ≠ M q) : hkRG (rgu T H nc) (rgv T H nc) (fun c => sI (fun t => uc (o t) c) P) := by
  have inj : ∀ i j, i < P → j < P → M i = M j → i = j := fun i j hi hj e => by
    rcases Nat.lt_trichotomy i j with a | a | a
    · exact absurd e (hd i j a hj)
    · exact a
    · exact absurd e.symm (hd j i a hi)
  by_cases p1 : P = 1
  · subst p1
    have z1 : ∀ c, sI (fun t => uc (o t) c) 1 = uc (o 0) c := fun c => by show (0 : Int) + uc (o 0) c = _; omega
    have hc : ∃ c, c < nc ∧ (o 0 = (c : Int) + 1 ∨ o 0 = -(c : Int) - 1) ∧ T c = H c := by
      rcases hE 0 (by omega) with ⟨c, a, b, e1, e2⟩ | ⟨c, a, b, e1, e2⟩ | ⟨_, ⟨a, b, _⟩ | ⟨a, b, _⟩⟩
      · exact ⟨c, a, Or.inl b, by rw [← e1, ← e2]; exact hM⟩
      · exact ⟨c, a, Or.inr b, by rw [← e1, ← e2]; exact hM.symm⟩
      · rw [hM] at b; exact absurd a b
      · rw [hM] at b; exact absurd b a
    obtain ⟨c, c1, c2, c3⟩ := hc
    have eu0 : rgu T H nc c = 0 := by unfold rgu; rw [if_neg (fun q => q.2 c3)]
    have ev1 : rgv T H nc c = 1 := by unfold rgv; rw [if_neg (fun q => q.2 c3)]
    have zn : ∀ d, d ≠ c → sI (fun t => uc (o t) d) 1 = 0 := fun d hd => by rw [z1]; exact uc_n c2 hd
    have dv : ∀ v, hkdv (rgu T H nc) (rgv T H nc) (fun c => sI (fun t => uc (o t) c) 1) v = (iv 1 v - iv 0 v) * uc (o 0) c := fun v => by
      show sI (fun d => (iv (rgv T H nc d) v - iv (rgu T H nc d) v) * sI (fun t => uc (o t) d) 1) 10 = _
      rw [sI_pk (a := c) (by omega) (fun d _ hne => by rw [zn d hne]; exact Int.mul_zero _), eu0, ev1, z1]
    refine ⟨fun d _ => by show -1 ≤ sI (fun t => uc (o t) d) 1 ∧ sI (fun t => uc (o t) d) 1 ≤ 1; rw [z1]; exact uc_bd _ _, fun v hv => ?_, ?_, fun d e _ _ hde _ zd ze => ?_, fun A _ => ?_⟩
    · show hkdv (rgu T H nc) (rgv T H nc) (fun c => sI (fun t => uc (o t) c) 1) v * hkdv (rgu T H nc) (rgv T H nc) (fun c => sI (fun t => uc (o t) c) 1) v + sI (fun d => if rgu T H nc d = v ∨ rgv T H nc d = v then sI (fun t => uc (o t) d) 1 * sI (fun t => uc (o t) d) 1 else 0) 10 ≤ 2
      rw [dv, sI_pk (a := c) (by omega) (fun d _ hne => by rw [zn d hne]; split <;> rfl), eu0, ev1, z1]
      unfold iv
      rcases uc_s c2 with ⟨e, _⟩ | ⟨e, _⟩ <;> rw [e]
      · by_cases q0 : 0 = v
        · subst q0; decide
        · by_cases q1 : 1 = v
          · subst q1; decide
          · rw [if_neg q0, if_neg q1, if_neg (by omega)]; decide
      · by_cases q0 : 0 = v
        · subst q0; decide
        · by_cases q1 : 1 = v
          · subst q1; decide
          · rw [if_neg q0, if_neg q1, if_neg (by omega)]; decide
    · rcases uc_s c2 with ⟨e, _⟩ | ⟨e, _⟩
      · exact ⟨1, 0, by omega, by omega, fun v _ => by rw [dv, e]; omega⟩
      · exact ⟨0, 1, by omega, by omega, fun v _ => by rw [dv, e]; omega⟩
    · by_cases q : d = c
      · exact absurd (zn e (by omega)) ze
      · exact absurd (zn d q) zd
    · have only : ∀ d, sI (fun t => uc (o t) d) 1 ≠ 0 → d = c := fun d hz => Classical.byContradiction fun n => hz (zn d n)
      by_cases g : A (rgu T H nc c)
      · exact Or.inl (fun d _ hz => by rw [only d hz]; exact g)
      · exact Or.inr (fun d _ hz => by rw [only d hz]; exact g)
  · have P2 : 2 ≤ P := by omega
    -- the next place of the ring
    have nx : ∀ t, t < P → ∃ n, n < P ∧ M (t + 1) = M n ∧ (n = t + 1 ∨ (n = 0 ∧ t + 1 = P)) := fun t ht => by
      by_cases e : t + 1 = P
      · exact ⟨0, by omega, by rw [e, hM], Or.inr ⟨rfl, e⟩⟩
      · exact ⟨t + 1, by omega, rfl, Or.inl rfl⟩
    have nl : ∀ t, t < P → M (t + 1) ≠ M t := fun t ht e => by
      obtain ⟨n, n1, n2, n3⟩ := nx t ht
      have := inj n t n1 ht (n2.symm.trans e)
      omega
    have injn : ∀ i j, i < P → j < P → M (i + 1) = M (j + 1) → i = j := fun i j hi hj e => by
      obtain ⟨n, n1, n2, n3⟩ := nx i hi
      obtain ⟨m, m1, m2, m3⟩ := nx j hj
      have := inj n m n1 m1 (n2.symm.trans (e.trans m2))
      omega
    -- a column of the ring
    have col : ∀ t, t < P → (∃ c, c < nc ∧ (o t = (c : Int) + 1 ∨ o t = -(c : Int) - 1) ∧ ((uc (o t) c = 1 ∧ rgu T H nc c = M (t + 1) ∧ rgv T H nc c = M t) ∨ (uc (o t) c = -1 ∧ rgu T H nc c = M t ∧ rgv T H nc c = M (t + 1)))) ∨ ((o t ≤ -100 ∨ 100 ≤ o t) ∧ ((M t = nr ∧ M (t + 1) ≠ nr ∧ M (t + 1) ≤ nr) ∨ (M t ≠ nr ∧ M (t + 1) = nr ∧ M t ≤ nr))) := fun t ht => by
      rcases hE t ht with ⟨c, a, b, e1, e2⟩ | ⟨c, a, b, e1, e2⟩ | g
      · left
        have ne : T c ≠ H c := by rw [← e1, ← e2]; exact nl t ht
        refine ⟨c, a, Or.inl b, Or.inl ⟨by unfold uc; rw [if_pos b], ?_, ?_⟩⟩
        · unfold rgu; rw [if_pos ⟨a, ne⟩, e1]
        · unfold rgv; rw [if_pos ⟨a, ne⟩, e2]
      · left
        have ne : T c ≠ H c := by rw [← e1, ← e2]; exact (nl t ht).symm
        refine ⟨c, a, Or.inr b, Or.inr ⟨by unfold uc; rw [if_neg (by omega), if_pos b], ?_, ?_⟩⟩
        · unfold rgu; rw [if_pos ⟨a, ne⟩, e2]
        · unfold rgv; rw [if_pos ⟨a, ne⟩, e1]
      · exact Or.inr g
    have dt : ∀ v t, t < P → sI (fun c => (iv (rgv T H nc c) v - iv (rgu T H nc c) v) * uc (o t) c) 10 = if -100 < o t ∧ o t < 100 then iv (M t) v - iv (M (t + 1)) v else 0 := fun v t ht => by
      rcases col t ht with ⟨c, a, b, g⟩ | ⟨g, _⟩
      · rw [sI_pk (a := c) (by omega) (fun d _ hne => by rw [uc_n b hne]; exact Int.mul_zero _), if_pos (by omega)]
        rcases g with ⟨g1, g2, g3⟩ | ⟨g1, g2, g3⟩
        · rw [g1, g2, g3]; omega
        · rw [g1, g2, g3]; omega
      · rw [sI_congr (h := fun _ => 0) (fun d hd => by rw [uc_b hd g]; exact Int.mul_zero _), sI_0, if_neg (by omega)]
    have nt : ∀ v t, t < P → sI (fun c => if rgu T H nc c = v ∨ rgv T H nc c = v then uc (o t) c * uc (o t) c else 0) 10 = if -100 < o t ∧ o t < 100 then iv (M t) v + iv (M (t + 1)) v else 0 := fun v t ht => by
      have n1 := nl t ht
      rcases col t ht with ⟨c, a, b, g⟩ | ⟨g, _⟩
      · rw [sI_pk (a := c) (by omega) (fun d _ hne => by rw [uc_n b hne]; split <;> rfl), if_pos (by omega : -100 < o t ∧ o t < 100)]
        unfold iv
        rcases g with ⟨g1, g2, g3⟩ | ⟨g1, g2, g3⟩
        · rw [g1, g2, g3]
          by_cases q1 : M t = v
          · rw [if_pos (Or.inr q1), if_pos q1, if_neg (fun q => n1 (q.trans q1.symm))]; rfl
          · by_cases q2 : M (t + 1) = v
            · rw [if_pos (Or.inl q2), if_neg q1, if_pos q2]; rfl
            · rw [if_neg (fun q => q.elim q2 q1), if_neg q1, if_neg q2]; rfl
        · rw [g1, g2, g3]
          by_cases q1 : M t = v
          · rw [if_pos (Or.inl q1), if_pos q1, if_neg (fun q => n1 (q.trans q1.symm))]; rfl
          · by_cases q2 : M (t + 1) = v
            · rw [if_pos (Or.inr q2), if_neg q1, if_pos q2]; rfl
            · rw [if_neg (fun q => q.elim q1 q2), if_neg q1, if_neg q2]; rfl
      · rw [sI_congr (h := fun _ => 0) (fun d hd => by rw [uc_b hd g]; split <;> rfl), sI_0, if_neg (by omega)]
    have zc : ∀ c, c < 10 → -1 ≤ sI (fun t => uc (o t) c) P ∧ sI (fun t => uc (o t) c) P ≤ 1 := fun c hc => by
      have hh : ∀ t, t < P → ∀ k : Nat, (o t = (k : Int) + 1 → k < 10 → M t = H k) ∧ (o t = -(k : Int) - 1 → k < 10 → M t = T k) := fun t ht k => by
        rcases hE t ht with ⟨c, a, b, e1, e2⟩ | ⟨c, a, b, e1, e2⟩ | ⟨g, _⟩
        · refine ⟨fun q _ => ?_, fun q _ => by omega⟩
          have : k = c := by omega
          rw [this]; exact e2
        · refine ⟨fun q _ => by omega, fun q _ => ?_⟩
          have : k = c := by omega
          rw [this]; exact e2
        · exact ⟨fun q _ => by omega, fun q _ => by omega⟩
      have := sI_pm (f := fun t => uc (o t) c) (n := P) (P := fun t => o t = (c : Int) + 1) (Q := fun t => o t = -(c : Int) - 1) (fun t ht => ?_) (fun i j hi hj a b => inj i j hi hj (((hh i hi c).1 a hc).trans ((hh j hj c).1 b hc).symm)) (fun i j hi hj a b => inj i j hi hj (((hh i hi c).2 a hc).trans ((hh j hj c).2 b hc).symm))
      · exact ⟨this.1, this.2.1⟩
      · show (o t = (c : Int) + 1 ∧ uc (o t) c = 1) ∨ (o t = -(c : Int) - 1 ∧ uc (o t) c = -1) ∨ _
        by_cases e1 : o t = (c : Int) + 1
        · exact Or.inl ⟨e1, by unfold uc; rw [if_pos e1]⟩
        · by_cases e2 : o t = -(c : Int) - 1
          · exact Or.inr (Or.inl ⟨e2, by unfold uc; rw [if_neg e1, if_pos e2]⟩)
          · exact Or.inr (Or.inr ⟨e1, e2, by unfold uc; rw [if_neg e1, if_neg e2]⟩)
    have dv : ∀ v, hkdv (rgu T H nc) (rgv T H nc) (fun c => sI (fun t => uc (o t) c) P) v = sI (fun t => if -100 < o t ∧ o t < 100 then iv (M t) v - iv (M (t + 1)) v else 0) P := fun v => by
      unfold hkdv
      rw [← sI_congr (dt v), sI_swap]
      exact sI_congr (fun c _ => (sI_mul _ _ _).symm)
    have cA : ∀ A : Nat → Prop, (∀ c, c < 10 → (A (rgu T H nc c) ↔ A (rgv T H nc c))) → (∀ c, c < 10 → sI (fun t => uc (o t) c) P ≠ 0 → A (rgu T H nc c)) ∨ (∀ c, c < 10 → sI (fun t => uc (o t) c) P ≠ 0 → ¬ A (rgu T H nc c)) := fun A hA => by
      have st : ∀ t, t < P → (¬ (o t ≤ -100 ∨ 100 ≤ o t)) → (A (M t) ↔ A (M (t + 1))) := fun t ht hn => by
        rcases col t ht with ⟨c, a, b, g⟩ | ⟨g, _⟩
        · have := hA c (by omega)
          rcases g with ⟨_, g1, g2⟩ | ⟨_, g1, g2⟩
          · rw [g1, g2] at this; exact this.symm
          · rw [g1, g2] at this; exact this
        · exact absurd g hn
      have run : ∀ n i, i + n ≤ P → (∀ t, i ≤ t → t < i + n → ¬ (o t ≤ -100 ∨ 100 ≤ o t)) → (A (M i) ↔ A (M (i + n))) := fun n i => by
        induction n with
        | zero => intro _ _; exact Iff.rfl
        | succ n ih =>
          intro hn hs
          exact (ih (by omega) (fun t a b => hs t a (by omega))).trans (st (i + n) (by omega) (hs (i + n) (by omega) (by omega)))
      have two : ∀ t t', t < t' → t' < P → ¬ (o t ≤ -100 ∨ 100 ≤ o t) → ¬ (o t' ≤ -100 ∨ 100 ≤ o t') → (A (M t) ↔ A (M t')) := fun t t' l1 l2 n1 n2 => by
        by_cases g : ∃ s, t < s ∧ s < t' ∧ (o s ≤ -100 ∨ 100 ≤ o s)
        · obtain ⟨s, s1, s2, s3⟩ := g
          have ex : ∃ i, (i = s ∨ i = s + 1) ∧ M i = nr := by
            rcases col s (by omega) with ⟨c, a, b, _⟩ | ⟨_, ⟨g1, _⟩ | ⟨_, g1, _⟩⟩
            · omega
            · exact ⟨s, Or.inl rfl, g1⟩
            · exact ⟨s + 1, Or.inr rfl, g1⟩
          obtain ⟨i, i1, i2⟩ := ex
          have only : ∀ q, q < P → (o q ≤ -100 ∨ 100 ≤ o q) → t < q ∧ q < t' := fun q hq hs => by
            have a1 : q ≠ t := fun e => n1 (by rw [← e]; exact hs)
            have a2 : q ≠ t' := fun e => n2 (by rw [← e]; exact hs)
            rcases col q hq with ⟨c, a, b, _⟩ | ⟨_, ⟨g1, _⟩ | ⟨_, g1, _⟩⟩
            · omega
            · have := inj q i hq (by omega) (g1.trans i2.symm)
              omega
            · obtain ⟨n, m1, m2, m3⟩ := nx q hq
              have := inj n i m1 (by omega) (m2.symm.trans (g1.trans i2.symm))
              omega
          have r1 := run (P - t') t' (by omega) (fun q a b hs => by have := only q (by omega) hs; omega)
          have r2 := run t 0 (by omega) (fun q a b hs => by have := only q (by omega) hs; omega)
          have e1 : t' + (P - t') = P := by omega
          have e2 : 0 + t = t := by omega
          rw [e1, hM] at r1
          rw [e2] at r2
          exact (r1.trans r2).symm
        · have r := run (t' - t) t (by omega) (fun q a b hs => by
            by_cases e : q = t
            · rw [e] at hs; exact n1 hs
            · exact g ⟨q, by omega, by omega, hs⟩)
          have e : t + (t' - t) = t' := by omega
          rw [e] at r; exact r
      have sup : ∀ c, c < 10 → sI (fun t => uc (o t) c) P ≠ 0 → ∃ t, t < P ∧ ¬ (o t ≤ -100 ∨ 100 ≤ o t) ∧ (A (rgu T H nc c) ↔ A (M t)) := fun c hc hz => by
        obtain ⟨t, ht, hne⟩ := sI_ne hz
        have oc : o t = (c : Int) + 1 ∨ o t = -(c : Int) - 1 := by rcases uc_1 hne with ⟨q, _⟩ | ⟨q, _⟩ <;> omega
        refine ⟨t, ht, by omega, ?_⟩
        rcases col t ht with ⟨c', a, b, g⟩ | ⟨g, _⟩
        · have : c' = c := by omega
          subst this
          have h := hA c' hc
          rcases g with ⟨_, g1, g2⟩ | ⟨_, g1, g2⟩
          · rw [g2] at h; exact h
          · rw [g1]
        · omega
      by_cases g : ∃ c, c < 10 ∧ sI (fun t => uc (o t) c) P ≠ 0 ∧ A (rgu T H nc c)
      · left
        intro d hd hz
        obtain ⟨c, c1, c2, c3⟩ := g
        obtain ⟨t, t1, t2, t3⟩ := sup c c1 c2
        obtain ⟨t', t1', t2', t3'⟩ := sup d hd hz
        have : A (M t) ↔ A (M t') := by
          rcases Nat.lt_trichotomy t t' with q | q | q
          · exact two t t' q t1' t2 t2'
          · rw [q]
          · exact (two t' t q t1 t2' t2).symm
        exact t3'.mpr (this.mp (t3.mp c3))
      · right
        intro d hd hz hA'
        exact g ⟨d, hd, hz, hA'⟩
    refine ⟨zc, fun v hv => ?_, ?_, fun c d hc hd2 hcd hpl zc1 zd1 e he hec hed => ?_, cA⟩
    · have A := sI_one (P := fun t => (-100 < o t ∧ o t < 100) ∧ M t = v) (t := 1) (n := P) (fun i j hi hj a b => inj i j hi hj (a.2.trans b.2.symm))
      have B := sI_one (P := fun t => (-100 < o t ∧ o t < 100) ∧ M (t + 1) = v) (t := 1) (n := P) (fun i j hi hj a b => injn i j hi hj (a.2.trans b.2.symm))
      have eA : ∀ t, (if (-100 < o t ∧ o t < 100) ∧ M t = v then (1 : Int) else 0) = if -100 < o t ∧ o t < 100 then iv (M t) v else 0 := fun t => by
        unfold iv
        by_cases q : -100 < o t ∧ o t < 100
        · by_cases q2 : M t = v
          · rw [if_pos ⟨q, q2⟩, if_pos q, if_pos q2]
          · rw [if_neg (fun g => q2 g.2), if_pos q, if_neg q2]
        · rw [if_neg (fun g => q g.1), if_neg q]
      have eB : ∀ t, (if (-100 < o t ∧ o t < 100) ∧ M (t + 1) = v then (1 : Int) else 0) = if -100 < o t ∧ o t < 100 then iv (M (t + 1)) v else 0 := fun t => by
        unfold iv
        by_cases q : -100 < o t ∧ o t < 100
        · by_cases q2 : M (t + 1) = v
          · rw [if_pos ⟨q, q2⟩, if_pos q, if_pos q2]
          · rw [if_neg (fun g => q2 g.2), if_pos q, if_neg q2]
        · rw [if_neg (fun g => q g.1), if_neg q]
      rw [sI_congr (fun t _ => eA t)] at A
      rw [sI_congr (fun t _ => eB t)] at B
      have d1 : hkdv (rgu T H nc) (rgv T H nc) (fun c => sI (fun t => uc (o t) c) P) v = sI (fun t => if -100 < o t ∧ o t < 100 then iv (M t) v else 0) P - sI (fun t => if -100 < o t ∧ o t < 100 then iv (M (t + 1)) v else 0) P := by
        rw [dv, ← sI_sub]
        exact sI_congr (fun t _ => by split <;> omega)
      have d2 : sI (fun c => if rgu T H nc c = v ∨ rgv T H nc c = v then sI (fun t => uc (o t) c) P * sI (fun t => uc (o t) c) P else 0) 10 ≤ sI (fun t => if -100 < o t ∧ o t < 100 then iv (M t) v else 0) P + sI (fun t => if -100 < o t ∧ o t < 100 then iv (M (t + 1)) v else 0) P := by
        have e1 : sI (fun t => if -100 < o t ∧ o t < 100 then iv (M t) v else 0) P + sI (fun t => if -100 < o t ∧ o t < 100 then iv (M (t + 1)) v else 0) P = sI (fun c => sI (fun t => if rgu T H nc c = v ∨ rgv T H nc c = v then uc (o t) c * uc (o t) c else 0) P) 10 := by
          rw [← sI_add, ← sI_swap]
          refine sI_congr (fun t ht => ?_)
          rw [nt v t ht]
          split <;> omega
        rw [e1]
        refine sI_mono (fun c hc => ?_)
        by_cases q : rgu T H nc c = v ∨ rgv T H nc c = v
        · rw [if_pos q, sI_congr (g := fun t => if rgu T H nc c = v ∨ rgv T H nc c = v then uc (o t) c * uc (o t) c else 0) (h := fun t => uc (o t) c * uc (o t) c) (fun t _ => by rw [if_pos q])]
          have nn : ∀ t, t < P → 0 ≤ uc (o t) c * uc (o t) c := fun t _ => by
            have := uc_bd (o t) c
            have : uc (o t) c = 0 ∨ uc (o t) c = 1 ∨ uc (o t) c = -1 := by omega
            rcases this with e | e | e <;> rw [e] <;> decide
          have b := zc c hc
          by_cases z0 : sI (fun t => uc (o t) c) P = 0
          · rw [z0]; exact sI_nn nn
          · obtain ⟨t, ht, hne⟩ := sI_ne z0
            have l := sI_lea (f := fun t => uc (o t) c * uc (o t) c) nn ht
            have u1 : uc (o t) c * uc (o t) c = 1 := by
              rcases uc_1 hne with ⟨_, e⟩ | ⟨_, e⟩ <;> rw [e] <;> rfl
            have : sI (fun t => uc (o t) c) P = 1 ∨ sI (fun t => uc (o t) c) P = -1 := by omega
            rcases this with e | e <;> rw [e] <;> (have l2 : (1 : Int) ≤ sI (fun t => uc (o t) c * uc (o t) c) P := by rw [← u1]; exact l) <;> omega
        · rw [if_neg q, sI_congr (g := fun t => if rgu T H nc c = v ∨ rgv T H nc c = v then uc (o t) c * uc (o t) c else 0) (h := fun _ => 0) (fun t _ => by rw [if_neg q]), sI_0]
          exact Int.le_refl _
      rw [d1]
      generalize sI (fun t => if -100 < o t ∧ o t < 100 then iv (M t) v else 0) P = X at *
      generalize sI (fun t => if -100 < o t ∧ o t < 100 then iv (M (t + 1)) v else 0) P = Y at *
      generalize sI (fun c => if rgu T H nc c = v ∨ rgv T H nc c = v then sI (fun t => uc (o t) c) P * sI (fun t => uc (o t) c) P else 0) 10 = Z at *
      have xx : X = 0 ∨ X = 1 := by rcases A with ⟨a, _⟩ | ⟨a, _⟩ <;> omega
      have yy : Y = 0 ∨ Y = 1 := by rcases B with ⟨a, _⟩ | ⟨a, _⟩ <;> omega
      show (X - Y) * (X - Y) + Z ≤ 2
      rcases xx with e | e <;> rcases yy with f | f <;> subst e <;> subst f <;> omega
    · -- the ends
      have tel : ∀ v p, sI (fun t => iv (M t) v - iv (M (t + 1)) v) p = iv (M 0) v - iv (M p) v := fun v p => by
        induction p with
        | zero => show (0 : Int) = _; omega
        | succ p ih => rw [sI_s, ih]; omega
      have f1 : ∀ v, hkdv (rgu T H nc) (rgv T H nc) (fun c => sI (fun t => uc (o t) c) P) v = sI (fun t => if (o t ≤ -100 ∨ 100 ≤ o t) ∧ M t = nr then iv (M (t + 1)) v - iv nr v else 0) P + sI (fun t => if (o t ≤ -100 ∨ 100 ≤ o t) ∧ M (t + 1) = nr then iv nr v - iv (M t) v else 0) P := fun v => by
        have t0 := tel v P
        rw [hM] at t0
        have e : sI (fun t => if -100 < o t ∧ o t < 100 then iv (M t) v - iv (M (t + 1)) v else 0) P = sI (fun t => (iv (M t) v - iv (M (t + 1)) v) + ((if (o t ≤ -100 ∨ 100 ≤ o t) ∧ M t = nr then iv (M (t + 1)) v - iv nr v else 0) + (if (o t ≤ -100 ∨ 100 ≤ o t) ∧ M (t + 1) = nr then iv nr v - iv (M t) v else 0))) P := sI_congr (fun t ht => by
          rcases col t ht with ⟨c, a, b, _⟩ | ⟨g, ⟨g1, g2, _⟩ | ⟨g1, g2, _⟩⟩
          · rw [if_pos (by omega), if_neg (by omega), if_neg (by omega)]; omega
          · rw [if_neg (by omega), if_pos ⟨g, g1⟩, if_neg (fun q => g2 q.2), g1]; omega
          · rw [if_neg (by omega), if_neg (fun q => g1 q.2), if_pos ⟨g, g2⟩, g2]; omega)
        rw [dv, e, sI_add, sI_add, t0]
        omega
      have s1 : (∃ t1, t1 < P ∧ M (t1 + 1) ≤ nr ∧ ∀ v, sI (fun t => if (o t ≤ -100 ∨ 100 ≤ o t) ∧ M t = nr then iv (M (t + 1)) v - iv nr v else 0) P = iv (M (t1 + 1)) v - iv nr v) ∨ ∀ v, sI (fun t => if (o t ≤ -100 ∨ 100 ≤ o t) ∧ M t = nr then iv (M (t + 1)) v - iv nr v else 0) P = 0 := by
        by_cases g : ∃ t1, t1 < P ∧ (o t1 ≤ -100 ∨ 100 ≤ o t1) ∧ M t1 = nr
        · obtain ⟨t1, a, b, c⟩ := g
          left
          refine ⟨t1, a, ?_, fun v => ?_⟩
          · rcases col t1 a with ⟨_, _, q, _⟩ | ⟨_, ⟨_, _, q⟩ | ⟨q, _⟩⟩
            · omega
            · exact q
            · exact absurd c q
          · rw [sI_pk (a := t1) a (fun t ht hne => by rw [if_neg (fun q => hne (inj t t1 ht a (q.2.trans c.symm)))]), if_pos ⟨b, c⟩]
        · right
          intro v
          rw [sI_congr (h := fun _ => 0) (fun t ht => by rw [if_neg (fun q => g ⟨t, ht, q.1, q.2⟩)]), sI_0]
      have s2 : (∃ t2, t2 < P ∧ M t2 ≤ nr ∧ ∀ v, sI (fun t => if (o t ≤ -100 ∨ 100 ≤ o t) ∧ M (t + 1) = nr then iv nr v - iv (M t) v else 0) P = iv nr v - iv (M t2) v) ∨ ∀ v, sI (fun t => if (o t ≤ -100 ∨ 100 ≤ o t) ∧ M (t + 1) = nr then iv nr v - iv (M t) v else 0) P = 0 := by
        by_cases g : ∃ t1, t1 < P ∧ (o t1 ≤ -100 ∨ 100 ≤ o t1) ∧ M (t1 + 1) = nr
        · obtain ⟨t1, a, b, c⟩ := g
          left
          refine ⟨t1, a, ?_, fun v => ?_⟩
          · rcases col t1 a with ⟨_, _, q, _⟩ | ⟨_, ⟨_, q, _⟩ | ⟨_, _, q⟩⟩
            · omega
            · exact absurd c q
            · exact q
          · rw [sI_pk (a := t1) a (fun t ht hne => by rw [if_neg (fun q => hne (injn t t1 ht a (q.2.trans c.symm)))]), if_pos ⟨b, c⟩]
        · right
          intro v
          rw [sI_congr (h := fun _ => 0) (fun t ht => by rw [if_neg (fun q => g ⟨t, ht, q.1, q.2⟩)]), sI_0]
      rcases s1 with ⟨t1, _, b1, e1⟩ | e1 <;> rcases s2 with ⟨t2, _, b2, e2⟩ | e2
      · exact ⟨M (t1 + 1), M t2, by omega, by omega, fun v _ => by rw [f1, e1, e2]; omega⟩
      · exact ⟨M (t1 + 1), nr, by omega, by omega, fun v _ => by rw [f1, e1, e2]; omega⟩
      · exact ⟨nr, M t2, by omega, by omega, fun v _ => by rw [f1, e1, e2]; omega⟩
      · exact ⟨0, 0, by omega, by omega, fun v _ => by rw [f1, e1, e2]; omega⟩
    · -- two parallel columns
      obtain ⟨t, ht, hne⟩ := sI_ne zc1
      obtain ⟨t', ht', hne'⟩ := sI_ne zd1
      have oc : o t = (c : Int) + 1 ∨ o t = -(c : Int) - 1 := by rcases uc_1 hne with ⟨q, _⟩ | ⟨q, _⟩ <;> omega
      have od : o t' = (d : Int) + 1 ∨ o t' = -(d : Int) - 1 := by rcases uc_1 hne' with ⟨q, _⟩ | ⟨q, _⟩ <;> omega
      have tt : t ≠ t' := fun q => by rw [q] at oc; omega
      have k1 : (rgu T H nc c = M (t + 1) ∧ rgv T H nc c = M t) ∨ (rgu T H nc c = M t ∧ rgv T H nc c = M (t + 1)) := by
        rcases col t ht with ⟨c', a, b, g⟩ | ⟨g, _⟩
        · have : c' = c := by omega
          subst this
          rcases g with ⟨_, q⟩ | ⟨_, q⟩
          · exact Or.inl q
          · exact Or.inr q
        · omega
      have k2 : (rgu T H nc d = M (t' + 1) ∧ rgv T H nc d = M t') ∨ (rgu T H nc d = M t' ∧ rgv T H nc d = M (t' + 1)) := by
        rcases col t' ht' with ⟨c', a, b, g⟩ | ⟨g, _⟩
        · have : c' = d := by omega
          subst this
          rcases g with ⟨_, q⟩ | ⟨_, q⟩
          · exact Or.inl q
          · exact Or.inr q
        · omega
      have op : M (t + 1) = M t' ∧ M (t' + 1) = M t := by
        have no : M t ≠ M t' := fun q => tt (inj t t' ht ht' q)
        have no2 : M (t + 1) ≠ M (t' + 1) := fun q => tt (injn t t' ht ht' q)
        exact rg_op hpl k1 k2 no no2
      obtain ⟨n, n1, n2, n3⟩ := nx t ht
      obtain ⟨m, m1, m2, m3⟩ := nx t' ht'
      have a1 := inj n t' n1 ht' (n2.symm.trans op.1)
      have a2 := inj m t m1 ht (m2.symm.trans op.2)
      have pp : P = 2 := by omega
      show sI (fun t => uc (o t) e) P = 0
      rw [sI_congr (h := fun _ => 0) (fun s hs => ?_), sI_0]
      have : s = t ∨ s = t' := by omega
      rcases this with q | q
      · rw [q]; exact uc_n oc hec
      · rw [q]; exact uc_n od hed
