/-! which flows have a point: sets of nodes -/
def fup (f : Nat → Int) (c : Nat) (v : Int) : Nat → Int := fun x => if x = c then v else f x
theorem fup_e (f : Nat → Int) (c : Nat) (v : Int) : fup f c v c = v := if_pos rfl
theorem fup_n (f : Nat → Int) {c x : Nat} (v : Int) (h : x ≠ c) : fup f c v x = f x := if_neg h
theorem sI_upd {f g : Nat → Int} {n c : Nat} (hc : c < n) (h : ∀ x, x < n → x ≠ c → g x = f x) : sI g n = sI f n + (g c - f c) := by
  induction n with
  | zero => omega
  | succ n ih =>
    rw [sI_s, sI_s]
    by_cases e : c = n
    · rw [e, sI_congr (fun x hx => h x (by omega) (by omega))]
      omega
    · rw [ih (by omega) (fun x hx hne => h x (by omega) hne), h n (by omega) (by omega)]
      omega
theorem sI_mono {f g : Nat → Int} {n : Nat} (h : ∀ x, x < n → f x ≤ g x) : sI f n ≤ sI g n := by
  induction n with
  | zero => exact Int.le_refl _
  | succ n ih =>
    have h1 := ih (fun x hx => h x (by omega))
    have h2 := h n (by omega)
    rw [sI_s, sI_s]
    omega
/-- what a column takes from a set's room -/
def phi (L H : Int) (zu zd : Bool) : Int := if zu = true ∧ zd = false then -L else if zd = true ∧ zu = false then H else 0
theorem phi_sub {L H : Int} (h : L ≤ H) (a b c d : Bool) : phi L H (a || c) (b || d) + phi L H (a && c) (b && d) ≤ phi L H a b + phi L H c d := by
  unfold phi
  cases a <;> cases b <;> cases c <;> cases d <;> simp <;> omega
/-- the room of a set of nodes: not below 0 for every set where there is a point -/
def gS (b : Nat → Int) (N nc : Nat) (u d : Nat → Nat) (L H : Nat → Int) (Z : Nat → Bool) : Int := sI (fun v => if Z v = true then b v else 0) N + sI (fun c => phi (L c) (H c) (Z (u c)) (Z (d c))) nc
def alw (sl : Nat → Nat → Prop) (Z : Nat → Bool) : Prop := ∀ p q, sl p q → Z p = true → Z q = true
def zUn (Z W : Nat → Bool) : Nat → Bool := fun v => Z v || W v
def zIn (Z W : Nat → Bool) : Nat → Bool := fun v => Z v && W v
theorem alw_U {sl : Nat → Nat → Prop} {Z W : Nat → Bool} (h : alw sl Z) (g : alw sl W) : alw sl (zUn Z W) := fun p q hs hp => by
  unfold zUn at *
  rw [Bool.or_eq_true] at *
  exact hp.imp (h p q hs) (g p q hs)
theorem alw_I {sl : Nat → Nat → Prop} {Z W : Nat → Bool} (h : alw sl Z) (g : alw sl W) : alw sl (zIn Z W) := fun p q hs hp => by
  unfold zIn at *
  rw [Bool.and_eq_true] at *
  exact ⟨h p q hs hp.1, g p q hs hp.2⟩
theorem gS_sub {b : Nat → Int} {N nc : Nat} {u d : Nat → Nat} {L H : Nat → Int} (hLH : ∀ c, c < nc → L c ≤ H c) {c0 : Nat} (hc0 : c0 < nc) {Z W : Nat → Bool} (z1 : Z (u c0) = true) (z2 : Z (d c0) = false) (w1 : W (u c0) = false) (w2 : W (d c0) = true) :
    gS b N nc u d L H (zUn Z W) + gS b N nc u d L H (zIn Z W) + (H c0 - L c0) ≤ gS b N nc u d L H Z + gS b N nc u d L H W := by
  have hb : sI (fun v => if zUn Z W v = true then b v else 0) N + sI (fun v => if zIn Z W v = true then b v else 0) N = sI (fun v => if Z v = true then b v else 0) N + sI (fun v => if W v = true then b v else 0) N := by
    rw [← sI_add, ← sI_add]
    refine sI_congr (fun v _ => ?_)
    unfold zUn zIn
    cases Z v <;> cases W v <;> simp
  have hp : sI (fun c => phi (L c) (H c) (zUn Z W (u c)) (zUn Z W (d c))) nc + sI (fun c => phi (L c) (H c) (zIn Z W (u c)) (zIn Z W (d c))) nc + (H c0 - L c0) ≤ sI (fun c => phi (L c) (H c) (Z (u c)) (Z (d c))) nc + sI (fun c => phi (L c) (H c) (W (u c)) (W (d c))) nc := by
    rw [← sI_add, ← sI_add]
    have e := sI_upd (f := fun c => phi (L c) (H c) (zUn Z W (u c)) (zUn Z W (d c)) + phi (L c) (H c) (zIn Z W (u c)) (zIn Z W (d c))) (g := fup (fun c => phi (L c) (H c) (zUn Z W (u c)) (zUn Z W (d c)) + phi (L c) (H c) (zIn Z W (u c)) (zIn Z W (d c))) c0 (H c0 - L c0)) hc0 (fun x _ hx => fup_n _ _ hx)
    rw [fup_e] at e
    have e0 : phi (L c0) (H c0) (zUn Z W (u c0)) (zUn Z W (d c0)) + phi (L c0) (H c0) (zIn Z W (u c0)) (zIn Z W (d c0)) = 0 := by
      unfold zUn zIn phi
      rw [z1, z2, w1, w2]
      simp
    rw [e0] at e
    have m := sI_mono (f := fup (fun c => phi (L c) (H c) (zUn Z W (u c)) (zUn Z W (d c)) + phi (L c) (H c) (zIn Z W (u c)) (zIn Z W (d c))) c0 (H c0 - L c0)) (g := fun c => phi (L c) (H c) (Z (u c)) (Z (d c)) + phi (L c) (H c) (W (u c)) (W (d c))) (n := nc) (fun c hc => by
      by_cases w : c = c0
      · subst w
        rw [fup_e, z1, z2, w1, w2]
        unfold phi
        simp
        omega
      · rw [fup_n _ _ w]
        exact phi_sub (hLH c hc) _ _ _ _)
    omega
  unfold gS
  omega
theorem int_least (n : Nat) : ∀ (l : Int) (p : Int → Prop), p (l + n) → ∃ v, l ≤ v ∧ v ≤ l + n ∧ p v ∧ (v = l ∨ ¬ p (v - 1)) := by
  induction n with
  | zero => intro l p h; exact ⟨l, by omega, by omega, by simpa using h, Or.inl rfl⟩
  | succ n ih =>
    intro l p h
    by_cases e : p (l + n)
    · obtain ⟨v, a, b, c, d⟩ := ih l p e
      exact ⟨v, a, by omega, c, d⟩
    · refine ⟨l + (n + 1 : Nat), by omega, by omega, h, Or.inr ?_⟩
      have : l + ((n + 1 : Nat) : Int) - 1 = l + n := by omega
      rw [this]
      exact e
/-- one column more can be fixed -/
theorem hof_step {b : Nat → Int} {N nc : Nat} {u d : Nat → Nat} {L H : Nat → Int} {sl : Nat → Nat → Prop} (hLH : ∀ c, c < nc → L c ≤ H c) (hP : ∀ Z, alw sl Z → 0 ≤ gS b N nc u d L H Z) {c0 : Nat} (hc0 : c0 < nc) :
    ∃ v, L c0 ≤ v ∧ v ≤ H c0 ∧ ∀ Z, alw sl Z → 0 ≤ gS b N nc u d (fup L c0 v) (fup H c0 v) Z := by
  have hle := hLH c0 hc0
  obtain ⟨n, hn⟩ : ∃ n : Nat, H c0 = L c0 + n := ⟨(H c0 - L c0).toNat, by omega⟩
  obtain ⟨v, v1, v2, v3, v4⟩ := int_least n (L c0) (fun v => ∀ W, alw sl W → W (u c0) = false → W (d c0) = true → H c0 - gS b N nc u d L H W ≤ v) (fun W hW _ _ => by have := hP W hW; omega)
  refine ⟨v, v1, by omega, fun Z hZ => ?_⟩
  have hz := hP Z hZ
  have hg : gS b N nc u d (fup L c0 v) (fup H c0 v) Z = gS b N nc u d L H Z + (phi v v (Z (u c0)) (Z (d c0)) - phi (L c0) (H c0) (Z (u c0)) (Z (d c0))) := by
    have e := sI_upd (f := fun c => phi (L c) (H c) (Z (u c)) (Z (d c))) (g := fun c => phi (fup L c0 v c) (fup H c0 v c) (Z (u c)) (Z (d c))) hc0 (fun x _ hx => by rw [fup_n _ _ hx, fup_n _ _ hx])
    rw [fup_e, fup_e] at e
    unfold gS
    rw [e]
    omega
  rw [hg]
  cases zu : Z (u c0) <;> cases zd : Z (d c0)
  · simp [phi]; omega
  · have h := v3 Z hZ zu zd
    simp [phi]
    omega
  · simp [phi]
    rcases v4 with e | e
    · omega
    · have ⟨W, hW, a, bb, c⟩ : ∃ W, alw sl W ∧ W (u c0) = false ∧ W (d c0) = true ∧ ¬ H c0 - gS b N nc u d L H W ≤ v - 1 := by
        refine Classical.byContradiction (fun g => e (fun W h1 h2 h3 => Classical.byContradiction (fun g2 => g ⟨W, h1, h2, h3, g2⟩)))
      have hs := gS_sub (b := b) (N := N) hLH hc0 zu zd a bb
      have h1 := hP _ (alw_U hZ hW)
      have h2 := hP _ (alw_I hZ hW)
      omega
  · simp [phi]; omega
/-- all columns can be fixed -/
theorem hof_all {b : Nat → Int} {N nc : Nat} {u d : Nat → Nat} {sl : Nat → Nat → Prop} (k : Nat) : ∀ (L H : Nat → Int), k ≤ nc → (∀ c, c < nc → L c ≤ H c) → (∀ Z, alw sl Z → 0 ≤ gS b N nc u d L H Z) →
    ∃ L' H', (∀ c, c < nc → L' c ≤ H' c) ∧ (∀ c, c < nc → L c ≤ L' c ∧ H' c ≤ H c) ∧ (∀ c, c < k → L' c = H' c) ∧ ∀ Z, alw sl Z → 0 ≤ gS b N nc u d L' H' Z := by
  induction k with
  | zero => intro L H _ h1 h2; exact ⟨L, H, h1, fun c _ => ⟨Int.le_refl _, Int.le_refl _⟩, fun c hc => by omega, h2⟩
  | succ k ih =>
    intro L H hk h1 h2
    obtain ⟨L1, H1, a1, a2, a3, a4⟩ := ih L H (by omega) h1 h2
    obtain ⟨v, v1, v2, v3⟩ := hof_step a1 a4 (c0 := k) (by omega)
    refine ⟨fup L1 k v, fup H1 k v, fun c hc => ?_, fun c hc => ?_, fun c hc => ?_, v3⟩
    · by_cases e : c = k
      · rw [e, fup_e, fup_e]; omega
      · rw [fup_n _ _ e, fup_n _ _ e]; exact a1 c hc
    · have := a2 c hc
      by_cases e : c = k
      · subst e; rw [fup_e, fup_e]; omega
      · rw [fup_n _ _ e, fup_n _ _ e]; exact this
    · by_cases e : c = k
      · rw [e, fup_e, fup_e]
      · rw [fup_n _ _ e, fup_n _ _ e]; exact a3 c (by omega)
theorem hof {b : Nat → Int} {N nc : Nat} {u d : Nat → Nat} {L H : Nat → Int} {sl : Nat → Nat → Prop} (hLH : ∀ c, c < nc → L c ≤ H c) (hP : ∀ Z, alw sl Z → 0 ≤ gS b N nc u d L H Z) : ∃ x : Nat → Int, (∀ c, c < nc → L c ≤ x c ∧ x c ≤ H c) ∧ ∀ Z, alw sl Z → 0 ≤ gS b N nc u d x x Z := by
  obtain ⟨L1, H1, a1, a2, a3, a4⟩ := hof_all nc L H (Nat.le_refl _) hLH hP
  refine ⟨L1, fun c hc => ?_, fun Z hZ => ?_⟩
  · have h1 := a2 c hc
    have h2 := a3 c hc
    omega
  · have h := a4 Z hZ
    have e : gS b N nc u d L1 H1 Z = gS b N nc u d L1 L1 Z := by
      unfold gS
      rw [sI_congr (g := fun c => phi (L1 c) (H1 c) (Z (u c)) (Z (d c))) (h := fun c => phi (L1 c) (L1 c) (Z (u c)) (Z (d c))) (n := nc) (fun c hc => by rw [a3 c hc])]
    rw [e] at h
    exact h
/-- and the other way: where there is a point, no set's room is below 0 -/
theorem hof_back {b : Nat → Int} {N nc : Nat} {u d : Nat → Nat} {L H x : Nat → Int} {Z : Nat → Bool} (hx : ∀ c, c < nc → L c ≤ x c ∧ x c ≤ H c) (h : 0 ≤ gS b N nc u d x x Z) : 0 ≤ gS b N nc u d L H Z := by
  have m := sI_mono (f := fun c => phi (x c) (x c) (Z (u c)) (Z (d c))) (g := fun c => phi (L c) (H c) (Z (u c)) (Z (d c))) (n := nc) (fun c hc => by
    have := hx c hc
    unfold phi
    cases Z (u c) <;> cases Z (d c) <;> simp <;> omega)
  unfold gS at *
  omega
