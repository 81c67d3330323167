/-! every graph is good: hkCE -/
noncomputable def zTn (k : Nat) : Nat := zgF [zT0, zT1, zT2, zT3, zT4, zT5, zT6, zT7, zT8, zT9] k
def zNn (k : Nat) : Nat := zgF [1, 1, 3, 8, 23, 65, 206, 645, 2121, 7042] k
def zRep (k : Nat) (R : Nat → Nat → Nat) : Prop := ∃ i, i < zNn k ∧ R = mS (cdE k (atE (zTn k) i))
theorem z_step {T T' k n n' : Nat} (h : ∀ i, i < n → ∃ r, rowE T k (stE T' (k + 1) n') i r = true) (i : Nat) (hi : i < n) : ∀ a b, a < 9 → b < 9 → a ≠ b → lsM (plM (mS (cdE k (atE T i))) a b) a b → ∃ ρ ρ', pmN ρ ρ' ∧ ∃ R', (∃ j, j < n' ∧ R' = mS (cdE (k + 1) (atE T' j))) ∧ eqM (fun u v => plM (mS (cdE k (atE T i))) a b (ρ' u) (ρ' v)) R' := fun a b ha hb hab l => by
  obtain ⟨r, hr⟩ := h i hi
  exact rowE_s (X := fun m => ∃ R', (∃ j, j < n' ∧ R' = mS (cdE (k + 1) (atE T' j))) ∧ eqM m R') (fun m m' e ⟨R', r1, r2⟩ => ⟨R', r1, fun u v hu hv hne => by rw [← e u v hu hv hne]; exact r2 u v hu hv hne⟩) (fun c D a b e _ hab hb h => stE_s hab hb h) hr a b ha hb hab l
theorem z_leaf {T n : Nat} (h : ∀ i, i < n → ∃ r, rowE T 9 leE i r = true) (i : Nat) (hi : i < n) : ∀ a b, a < 9 → b < 9 → a ≠ b → lsM (plM (mS (cdE 9 (atE T i))) a b) a b → ∃ ρ ρ', pmN ρ ρ' ∧ (gdT (fun u v => plM (mS (cdE 9 (atE T i))) a b (ρ' u) (ρ' v)) ∨ dcM (fun u v => plM (mS (cdE 9 (atE T i))) a b (ρ' u) (ρ' v))) := fun a b ha hb hab l => by
  obtain ⟨r, hr⟩ := h i hi
  exact rowE_s (X := fun m => gdT m ∨ dcM m) (fun m m' e g => g.elim (fun g => Or.inl (gdT_eq e g)) (fun g => Or.inr (dcM_eq e g))) (fun c D a b e hD hab hb h => leE_s hD hab hb h) hr a b ha hb hab l
theorem nS_zz {f : Nat → Nat} {n : Nat} (h : nS f n = 0) : ∀ i, i < n → f i = 0 := by
  induction n with
  | zero => intro i hi; omega
  | succ n ih =>
    have h2 : nS f n + f n = 0 := h
    intro i hi
    by_cases e : i = n
    · rw [e]; omega
    · exact ih (by omega) i (by omega)
theorem z_zero {m : Nat → Nat → Nat} (hs : ∀ u v, m u v = m v u) (h : ntot m = 0) : eqM m (mS 0) := by
  have z : ∀ u v, mS 0 u v = 0 := fun u v => by
    have d : ∀ i, dgt 0 i = 0 := fun i => by
      show (0 >>> (4 * i)) % 16 = 0
      rw [Nat.zero_shiftRight]
    rcases Nat.lt_or_ge v u with g | g
    · rw [mS_gt g, d]
    · rw [mS_le g, d]
  have main : ∀ u v, u < v → v < 9 → m u v = 0 := fun u v huv hv => by
    have a := nS_zz (nS_zz h u (by omega)) v hv
    have b : (if u < v then m u v else 0) = 0 := a
    rw [if_pos huv] at b
    exact b
  intro u v hu hv hne
  rw [z]
  rcases Nat.lt_or_gt_of_ne hne with g | g
  · exact main u v g hv
  · rw [hs]; exact main v u g hu
theorem hk_ce : hkCE := ce_fin2 (Rep := zRep) (fun m hs hm => ⟨mS (cdE 0 (atE zT0 0)), ⟨0, Nat.zero_lt_one, rfl⟩, z_zero hs hm⟩) (fun k hk R hR a b ha hb hab l => by
  obtain ⟨i, hi, e⟩ := hR
  subst e
  have : k = 0 ∨ k = 1 ∨ k = 2 ∨ k = 3 ∨ k = 4 ∨ k = 5 ∨ k = 6 ∨ k = 7 ∨ k = 8 := by omega
  rcases this with q | q | q | q | q | q | q | q | q <;> subst q
  · exact z_step zd_0_1 i hi a b ha hb hab l
  · exact z_step zd_1_1 i hi a b ha hb hab l
  · exact z_step zd_2_3 i hi a b ha hb hab l
  · exact z_step zd_3_8 i hi a b ha hb hab l
  · exact z_step zd_4_23 i hi a b ha hb hab l
  · exact z_step zd_5_65 i hi a b ha hb hab l
  · exact z_step zd_6_206 i hi a b ha hb hab l
  · exact z_step zd_7_645 i hi a b ha hb hab l
  · exact z_step zd_8_2121 i hi a b ha hb hab l) (fun R hR a b ha hb hab l => by
  obtain ⟨i, hi, e⟩ := hR
  subst e
  exact z_leaf zd_9_7042 i hi a b ha hb hab l)
