/-! what the two sides have in common between calls -/
def zC (S : ZS) (nc nr : Nat) : Prop := nc ≤ 10 ∧ nr ≤ 8 ∧ S.1 1 0 = nI nc ∧ S.1 1 1 = nI nr ∧ S.1 61 1 = nI nc ∧ S.1 61 2 = nI nr ∧
  (∀ c, c < nc → S.1 62 c = S.1 8 c ∧ S.1 63 c = S.1 9 c ∧ S.1 64 c = S.1 10 c ∧ zok (S.1 8 c) (S.1 9 c) ∧ zlim 1000 (S.1 10 c)) ∧
  (∀ r, r < nr → S.1 65 r = S.1 11 r ∧ S.1 66 r = S.1 12 r ∧ (S.1 11 r = 0 ∨ S.1 11 r = 1) ∧ zlim 100000 (S.1 12 r)) ∧
  (∀ r c, r < nr → c < nc → S.1 67 (10 * r + c) = S.1 (14 + r) c) ∧ (∀ r c, r < 8 → c < 10 → zlim 100 (S.1 (14 + r) c)) ∧
  (∀ r c, r < 8 → c < 10 → (nr ≤ r ∨ nc ≤ c) → S.1 (14 + r) c = 0)
/-- nothing is solved -/
def zN (S : ZS) : Prop := S.1 0 7 = 0 ∧ S.1 61 9 = -1
def zSol (S : ZS) (nc nr : Nat) : Prop := zN S ∨
  (S.1 0 7 = 1 ∧ S.1 61 9 = 1 ∧ S.1 61 10 = 1 ∧ (∀ c, c < nc → S.1 68 c = S.1 7 c) ∧ ∀ r, r < nr → (S.2 69 r).toInt = (S.1 37 r).toInt) ∨
  (S.1 0 7 = 2 ∧ S.1 61 9 = 1 ∧ S.1 61 10 = 0 ∧ ∀ c, c < nc → S.1 68 c = S.1 7 c) ∨
  (S.1 0 7 = 3 ∧ S.1 61 9 = 0 ∧ S.1 61 13 = S.1 5 0 ∧ S.1 61 14 = S.1 5 1)
def Inv (S : ZS) : Prop := ∃ nc nr, zC S nc nr ∧ zSol S nc nr
/-- the cells that last from call to call -/
def zper (n : Nat) : Bool := decide (n ≤ 1) || decide (n = 5) || (decide (7 ≤ n) && decide (n ≤ 12)) || (decide (14 ≤ n) && decide (n ≤ 21)) || decide (n = 37) || (decide (62 ≤ n) && decide (n ≤ 69))
def zPer (S T : ZS) : Prop := (∀ n, zper n = true → T.1 n = S.1 n ∧ T.2 n = S.2 n) ∧ ∀ j, j ≠ 0 → j ≠ 20 → T.1 61 j = S.1 61 j
theorem zPer.rf (S : ZS) : zPer S S := ⟨fun _ _ => ⟨rfl, rfl⟩, fun _ _ _ => rfl⟩
theorem zPer.tr {S T U : ZS} (h1 : zPer S T) (h2 : zPer T U) : zPer S U := ⟨fun n hn => ⟨(h2.1 n hn).1.trans (h1.1 n hn).1, (h2.1 n hn).2.trans (h1.1 n hn).2⟩, fun j a b => (h2.2 j a b).trans (h1.2 j a b)⟩
theorem zPer.u {S T : ZS} (h : zPer S T) {n j : Nat} {v : Int32} (hn : zper n = false) (h61 : n ≠ 61) : zPer S (zu T n j v) := ⟨fun m hm => ⟨by rw [zu_ne (fun e => by rw [e, hn] at hm; cases hm)]; exact (h.1 m hm).1, (h.1 m hm).2⟩, fun i a b => by rw [zu_ne (Ne.symm h61)]; exact h.2 i a b⟩
theorem zPer.ur {S T : ZS} (h : zPer S T) {n : Nat} {f : Nat → Int32} (hn : zper n = false) (h61 : n ≠ 61) : zPer S (zur T n f) := ⟨fun m hm => ⟨by unfold zur; dsimp only; rw [if_neg (fun e => by rw [e, hn] at hm; cases hm)]; exact (h.1 m hm).1, (h.1 m hm).2⟩, fun i a b => by unfold zur; dsimp only; rw [if_neg (Ne.symm h61)]; exact h.2 i a b⟩
theorem zPer.u61 {S T : ZS} (h : zPer S T) {j : Nat} {v : Int32} (hj : j = 0 ∨ j = 20) : zPer S (zu T 61 j v) := ⟨fun m hm => ⟨by rw [zu_ne (fun e => by subst e; cases hm)]; exact (h.1 m hm).1, (h.1 m hm).2⟩, fun i a b => by rw [zu_at, if_neg (by omega)]; exact h.2 i a b⟩
theorem zPer.w {S T : ZS} (h : zPer S T) {n j : Nat} {v : Int64} (hn : zper n = false) : zPer S (zw T n j v) := ⟨fun m hm => ⟨(h.1 m hm).1, by unfold zw zul; dsimp only; rw [if_neg (fun e => by rw [e, hn] at hm; cases hm)]; exact (h.1 m hm).2⟩, fun i a b => h.2 i a b⟩
theorem zper_row {r : Nat} (h : r < 8) : zper (14 + r) = true := by
  unfold zper
  have h1 : decide (7 ≤ 14 + r) = true := decide_eq_true (by omega)
  have h2 : decide (14 ≤ 14 + r) = true := decide_eq_true (by omega)
  have h3 : decide (14 + r ≤ 21) = true := decide_eq_true (by omega)
  simp [h2, h3]
theorem zC.per {S T : ZS} {nc nr : Nat} (h : zC S nc nr) (hp : zPer S T) : zC T nc nr := by
  obtain ⟨h1, h2, h3, h4, h5, h6, h7, h8, h9, h10, h11⟩ := h
  have p := fun n hn => (hp.1 n hn).1
  refine ⟨h1, h2, by rw [p 1 rfl]; exact h3, by rw [p 1 rfl]; exact h4, by rw [hp.2 1 (by decide) (by decide)]; exact h5, by rw [hp.2 2 (by decide) (by decide)]; exact h6, fun c hc => ?_, fun r hr => ?_, fun r c hr hc => ?_, fun r c hr hc => ?_, fun r c hr hc hh => ?_⟩
  · rw [p 62 rfl, p 63 rfl, p 64 rfl, p 8 rfl, p 9 rfl, p 10 rfl]; exact h7 c hc
  · rw [p 65 rfl, p 66 rfl, p 11 rfl, p 12 rfl]; exact h8 r hr
  · rw [p 67 rfl, p (14 + r) (zper_row (by omega))]; exact h9 r c hr hc
  · rw [p (14 + r) (zper_row hr)]; exact h10 r c hr hc
  · rw [p (14 + r) (zper_row hr)]; exact h11 r c hr hc hh
theorem zSol.per {S T : ZS} {nc nr : Nat} (h : zSol S nc nr) (hp : zPer S T) : zSol T nc nr := by
  have p := fun n hn => (hp.1 n hn).1
  have q := fun j a b => hp.2 j a b
  unfold zSol zN at *
  rw [p 0 rfl, p 7 rfl, p 68 rfl, p 37 rfl, p 5 rfl, (hp.1 69 rfl).2, q 9 (by decide) (by decide), q 10 (by decide) (by decide), q 13 (by decide) (by decide), q 14 (by decide) (by decide)]
  exact h
theorem Inv.per {S T : ZS} (h : Inv S) (hp : zPer S T) : Inv T := by
  obtain ⟨nc, nr, h1, h2⟩ := h
  exact ⟨nc, nr, h1.per hp, h2.per hp⟩
theorem Inv_0 : Inv zS0 := by
  have e : ∀ n, n ≠ 61 → zS0.1 n = fun _ => 0 := fun n h => by unfold zS0; simp [h]
  refine ⟨0, 0, ⟨by decide, by decide, by rw [e 1 (by decide)]; rfl, by rw [e 1 (by decide)]; rfl, rfl, rfl, fun c h => absurd h (Nat.not_lt_zero _), fun r h => absurd h (Nat.not_lt_zero _), fun r c h => absurd h (Nat.not_lt_zero _), fun r c hr hc => ?_, fun r c hr hc _ => ?_⟩, Or.inl ⟨by rw [e 0 (by decide)], rfl⟩⟩
  · rw [e (14 + r) (by omega)]; unfold zlim; exact (by decide : -100 ≤ (0 : Int32).toInt ∧ (0 : Int32).toInt ≤ 100)
  · rw [e (14 + r) (by omega)]
/-- the law's case of column() -/
theorem k_0 {y1 y2 y3 : Int32} {S : ZS} {N : ZS → Prop} (h : Inv S) (hN : ∀ T, Inv T → N T) : lawc_0 y1 y2 y3 S N := by
  obtain ⟨nc, nr, hC, hSol⟩ := h
  have hC0 := hC
  obtain ⟨h1, h2, h3, h4, h5, h6, h7, h8, h9, h10, h11⟩ := hC
  unfold lawc_0 L_column X7_thrown
  refine x6_column h3 h1 (fun hx => Or.inl ⟨rfl, ?_⟩) (fun hx hy => Or.inr ⟨rfl, ?_⟩) (fun hx hy hz => ?_)
  · refine x7_column h5 h1 (fun _ => ⟨fun _ => ⟨fun g => absurd g (by decide), fun _ => hN _ ⟨nc, nr, hC0.per ((zPer.rf S).u61 (Or.inl rfl)), hSol.per ((zPer.rf S).u61 (Or.inl rfl))⟩⟩, fun g => absurd (by rw [zu_at, if_pos ⟨rfl, rfl⟩]) g⟩) (fun g => by omega) (fun g => by omega)
  · refine x7_column h5 h1 (fun g => by omega) (fun _ _ => ⟨fun _ => ⟨fun g => absurd g (by decide), fun _ => hN _ ⟨nc, nr, hC0.per ((zPer.rf S).u61 (Or.inl rfl)), hSol.per ((zPer.rf S).u61 (Or.inl rfl))⟩⟩, fun g => absurd (by rw [zu_at, if_pos ⟨rfl, rfl⟩]) g⟩) (fun _ g1 g2 => absurd ⟨g1, g2⟩ hy)
  · intro U eU
    have eU1 : U.1 = (zu (zu (zu (zu (zu S 0 7 0) 8 nc y1) 9 nc y2) 10 nc y3) 1 0 (nI (nc + 1))).1 := by rw [eU]; rfl
    have hU : U.1 61 = S.1 61 := by rw [eU1, zu_ne (by decide), zu_ne (by decide), zu_ne (by decide), zu_ne (by decide), zu_ne (by decide)]
    refine x7_column (nc := nc) (by rw [hU]; exact h5) h1 (fun g => by omega) (fun _ g => absurd ⟨hy, hz⟩ g) (fun _ _ _ T hT hT1 hT9 => ?_)
    obtain ⟨w1, w2, w3, w4, w5, w6, w7, w8, w9⟩ := hT
    refine ⟨fun _ => ⟨fun _ => ⟨fun _ => hN T ?_, fun g => absurd ?_ g⟩, fun g => absurd rfl g⟩, fun g => absurd w4 g⟩
    · have cl : ∀ n, n ≠ 61 → n ≠ 62 → n ≠ 63 → n ≠ 64 → n ≠ 67 → T.1 n = (zu (zu (zu (zu (zu S 0 7 0) 8 nc y1) 9 nc y2) 10 nc y3) 1 0 (nI (nc + 1))).1 n := fun n a b c d f => by rw [w2 n a b c d f, eU1]
      have t1 : T.1 1 0 = nI (nc + 1) := by rw [cl 1 (by decide) (by decide) (by decide) (by decide) (by decide), zu_at, if_pos ⟨rfl, rfl⟩]
      have t1r : T.1 1 1 = S.1 1 1 := by rw [cl 1 (by decide) (by decide) (by decide) (by decide) (by decide), zu_at, if_neg (by decide), zu_ne (by decide), zu_ne (by decide), zu_ne (by decide), zu_ne (by decide)]
      have t8 : ∀ c, T.1 8 c = if c = nc then y1 else S.1 8 c := fun c => by
        rw [cl 8 (by decide) (by decide) (by decide) (by decide) (by decide), zu_ne (by decide), zu_ne (by decide), zu_ne (by decide), zu_at, zu_ne (by decide)]
        by_cases g : c = nc <;> simp [g]
      have t9 : ∀ c, T.1 9 c = if c = nc then y2 else S.1 9 c := fun c => by
        rw [cl 9 (by decide) (by decide) (by decide) (by decide) (by decide), zu_ne (by decide), zu_ne (by decide), zu_at, zu_ne (by decide), zu_ne (by decide)]
        by_cases g : c = nc <;> simp [g]
      have t10 : ∀ c, T.1 10 c = if c = nc then y3 else S.1 10 c := fun c => by
        rw [cl 10 (by decide) (by decide) (by decide) (by decide) (by decide), zu_ne (by decide), zu_at, zu_ne (by decide), zu_ne (by decide), zu_ne (by decide)]
        by_cases g : c = nc <;> simp [g]
      have tS : ∀ n, n ≠ 0 → n ≠ 1 → n ≠ 8 → n ≠ 9 → n ≠ 10 → n ≠ 61 → n ≠ 62 → n ≠ 63 → n ≠ 64 → n ≠ 67 → T.1 n = S.1 n := fun n b0 b1 b8 b9 b10 a b c d f => by
        rw [cl n a b c d f, zu_ne b1, zu_ne b10, zu_ne b9, zu_ne b8, zu_ne b0]
      have u62 : U.1 62 = S.1 62 := by rw [eU1, zu_ne (by decide), zu_ne (by decide), zu_ne (by decide), zu_ne (by decide), zu_ne (by decide)]
      have u63 : U.1 63 = S.1 63 := by rw [eU1, zu_ne (by decide), zu_ne (by decide), zu_ne (by decide), zu_ne (by decide), zu_ne (by decide)]
      have u64 : U.1 64 = S.1 64 := by rw [eU1, zu_ne (by decide), zu_ne (by decide), zu_ne (by decide), zu_ne (by decide), zu_ne (by decide)]
      have u67 : U.1 67 = S.1 67 := by rw [eU1, zu_ne (by decide), zu_ne (by decide), zu_ne (by decide), zu_ne (by decide), zu_ne (by decide)]
      refine ⟨nc + 1, nr, ⟨by omega, h2, t1, t1r.trans h4, hT1, by rw [w3 2 (by decide) (by decide) (by decide), hU]; exact h6, fun c hc => ?_, fun r hr => ?_, fun r c hr hc => ?_, fun r c hr hc => ?_, fun r c hr hc hh => ?_⟩, Or.inl ⟨?_, hT9⟩⟩
      · rw [w5, w6, w7, t8, t9, t10, u62, u63, u64]
        by_cases g : c = nc
        · simp only [g, if_true]
          exact ⟨trivial, trivial, trivial, hy, hz⟩
        · simp only [g, if_false]
          exact h7 c (by omega)
      · rw [tS 65 (by decide) (by decide) (by decide) (by decide) (by decide) (by decide) (by decide) (by decide) (by decide) (by decide), tS 66 (by decide) (by decide) (by decide) (by decide) (by decide) (by decide) (by decide) (by decide) (by decide) (by decide), tS 11 (by decide) (by decide) (by decide) (by decide) (by decide) (by decide) (by decide) (by decide) (by decide) (by decide), tS 12 (by decide) (by decide) (by decide) (by decide) (by decide) (by decide) (by decide) (by decide) (by decide) (by decide)]
        exact h8 r hr
      · rw [tS (14 + r) (by omega) (by omega) (by omega) (by omega) (by omega) (by omega) (by omega) (by omega) (by omega) (by omega)]
        by_cases g : c = nc
        · subst g
          rw [w8 r (by omega), h11 r c (by omega) (by omega) (Or.inr (Nat.le_refl _))]
        · rw [w9 _ (fun r9 h => by omega), u67]
          exact h9 r c hr (by omega)
      · rw [tS (14 + r) (by omega) (by omega) (by omega) (by omega) (by omega) (by omega) (by omega) (by omega) (by omega) (by omega)]
        exact h10 r c hr hc
      · rw [tS (14 + r) (by omega) (by omega) (by omega) (by omega) (by omega) (by omega) (by omega) (by omega) (by omega) (by omega)]
        exact h11 r c hr hc (by omega)
      · rw [cl 0 (by decide) (by decide) (by decide) (by decide) (by decide), zu_ne (by decide), zu_ne (by decide), zu_ne (by decide), zu_ne (by decide), zu_at, if_pos ⟨rfl, rfl⟩]
    · rw [lg_eq, w1, eU, zw_at, if_pos ⟨rfl, rfl⟩]
