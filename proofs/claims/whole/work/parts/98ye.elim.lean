/-! nodes taken out one after the other, in natural numbers -/
def zgW (κ k0 : Nat) : List Nat → List Nat → List Nat
  | a :: as, b :: bs => (κ * a + k0 * b) :: zgW κ k0 as bs
  | _, _ => []
def zgG (κ r0 : Nat) : List Nat → List (List Nat) → List (List Nat)
  | k0 :: ks, (r :: kk) :: rest => ((κ * r + k0 * r0) :: zgW κ k0 kk ks) :: zgG κ r0 ks rest
  | _, _ => []
def zgS : List Nat → Nat
  | [] => 0
  | a :: as => a + zgS as
def zgE : Nat → List (List Nat) → List Nat
  | 0, _ => []
  | n + 1, (r0 :: ks) :: rest => (r0 + zgS ks) :: zgE n (zgG (r0 + zgS ks) r0 ks rest)
  | _ + 1, _ => [0]
def zgF : List Nat → Nat → Nat
  | [], _ => 0
  | a :: _, 0 => a
  | _ :: as, i + 1 => zgF as i
def zgR : List (List Nat) → Nat → Nat
  | [], _ => 0
  | row :: _, 0 => zgF row 0
  | _ :: rest, i + 1 => zgR rest i
def zgU : List (List Nat) → Nat → Nat → Nat
  | [], _, _ => 0
  | row :: _, 0, j => zgF row j
  | _ :: rest, i + 1, j => zgU rest i (j - 1)
def zgK (rows : List (List Nat)) (i j : Nat) : Nat := if i < j then zgU rows i j else if j < i then zgU rows j i else 0
def zgH : Nat → List (List Nat) → Prop
  | 0, rows => rows = []
  | n + 1, row :: rest => row.length = n + 1 ∧ zgH n rest
  | _ + 1, [] => False
theorem zgW_l {κ k0 : Nat} : ∀ {as bs : List Nat}, as.length = bs.length → (zgW κ k0 as bs).length = as.length
  | [], [], _ => rfl
  | [], _ :: _, h => by cases h
  | _ :: _, [], h => by cases h
  | a :: as, b :: bs, h => by
    show (zgW κ k0 as bs).length + 1 = as.length + 1
    rw [zgW_l (by simpa using h)]
theorem zgW_f {κ k0 : Nat} : ∀ {as bs : List Nat}, as.length = bs.length → ∀ i, i < as.length → zgF (zgW κ k0 as bs) i = κ * zgF as i + k0 * zgF bs i
  | [], _, _, i, hi => by cases hi
  | _ :: _, [], h, _, _ => by cases h
  | a :: as, b :: bs, h, i, hi => by
    rcases i with _ | i
    · rfl
    · exact zgW_f (as := as) (bs := bs) (by simpa using h) i (by simpa using hi)
theorem zgG_h {κ r0 : Nat} : ∀ {n : Nat} {ks : List Nat} {rest : List (List Nat)}, ks.length = n → zgH n rest → zgH n (zgG κ r0 ks rest) := by
  intro n
  induction n with
  | zero =>
    intro ks rest h1 h2
    have e1 : ks = [] := by simpa using h1
    have e2 : rest = [] := h2
    rw [e1, e2]
    rfl
  | succ n ih =>
    intro ks rest h1 h2
    rcases ks with _ | ⟨k0, ks⟩
    · cases h1
    · rcases rest with _ | ⟨row, rest⟩
      · exact h2.elim
      · rcases row with _ | ⟨r, kk⟩
        · cases h2.1
        · have l1 : ks.length = n := by simpa using h1
          have l2 : kk.length = n := by simpa using h2.1
          refine ⟨?_, ih l1 h2.2⟩
          show (zgW κ k0 kk ks).length + 1 = n + 1
          rw [zgW_l (by rw [l1, l2]), l2]
theorem zgG_r {κ r0 : Nat} : ∀ {n : Nat} {ks : List Nat} {rest : List (List Nat)}, ks.length = n → zgH n rest → ∀ u, u < n → zgR (zgG κ r0 ks rest) u = κ * zgR rest u + zgF ks u * r0 := by
  intro n
  induction n with
  | zero => intro ks rest _ _ u hu; omega
  | succ n ih =>
    intro ks rest h1 h2 u hu
    rcases ks with _ | ⟨k0, ks⟩
    · cases h1
    · rcases rest with _ | ⟨row, rest⟩
      · exact h2.elim
      · rcases row with _ | ⟨r, kk⟩
        · cases h2.1
        · rcases u with _ | u
          · rfl
          · exact ih (ks := ks) (rest := rest) (by simpa using h1) h2.2 u (by omega)
theorem zgG_u {κ r0 : Nat} : ∀ {n : Nat} {ks : List Nat} {rest : List (List Nat)}, ks.length = n → zgH n rest → ∀ u v, u < v → v < n → zgU (zgG κ r0 ks rest) u v = κ * zgU rest u v + zgF ks u * zgF ks v := by
  intro n
  induction n with
  | zero => intro ks rest _ _ u v _ hv; omega
  | succ n ih =>
    intro ks rest h1 h2 u v huv hv
    rcases ks with _ | ⟨k0, ks⟩
    · cases h1
    · rcases rest with _ | ⟨row, rest⟩
      · exact h2.elim
      · rcases row with _ | ⟨r, kk⟩
        · cases h2.1
        · obtain ⟨v, rfl⟩ : ∃ w, v = w + 1 := ⟨v - 1, by omega⟩
          have l1 : ks.length = n := by simpa using h1
          have l2 : kk.length = n := by simpa using h2.1
          rcases u with _ | u
          · show zgF (zgW κ k0 kk ks) v = κ * zgF kk v + k0 * zgF ks v
            exact zgW_f (by rw [l1, l2]) v (by omega)
          · exact ih (ks := ks) (rest := rest) l1 h2.2 u v (by omega) (by omega)
/-- what the rows say, as a form -/
def zgL (n : Nat) (rows : List (List Nat)) : Nat → Nat → Rat := hkLp n (fun u => ((zgR rows u : Nat) : Rat)) (fun u v => ((zgK rows u v : Nat) : Rat))
def zgD : List Nat → Nat
  | [] => 1
  | κ :: ps => κ ^ ps.length * zgD ps
def zgN : List Nat → Nat
  | [] => 1
  | κ :: ps => κ * zgN ps
theorem zgE_l : ∀ {n : Nat} {rows : List (List Nat)}, zgH n rows → (zgE n rows).length = n := by
  intro n
  induction n with
  | zero => intro rows _; rfl
  | succ n ih =>
    intro rows h
    rcases rows with _ | ⟨row, rest⟩
    · exact h.elim
    · rcases row with _ | ⟨r0, ks⟩
      · cases h.1
      · show (zgE n (zgG (r0 + zgS ks) r0 ks rest)).length + 1 = n + 1
        rw [ih (zgG_h (by simpa using h.1) h.2)]
theorem hkLp_congr {n : Nat} {r r' : Nat → Rat} {k k' : Nat → Nat → Rat} (hr : ∀ u, u < n → r u = r' u) (hk : ∀ u v, u < n → v < n → u ≠ v → k u v = k' u v) : ∀ u v, u < n → v < n → hkLp n r k u v = hkLp n r' k' u v := fun u v hu hv => by
  unfold hkLp
  by_cases e : u = v
  · rw [if_pos e, if_pos e, hr u hu, hR_congr (f := fun w => if w = u then 0 else k u w) (g := fun w => if w = u then 0 else k' u w) (fun w hw => by
      by_cases q : w = u
      · rw [if_pos q, if_pos q]
      · rw [if_neg q, if_neg q, hk u w hu hw (Ne.symm q)])]
  · rw [if_neg e, if_neg e, hk u v hu hv e]
theorem zgS_q {n : Nat} : ∀ {ks : List Nat}, ks.length = n → hR n (fun w => ((zgF ks w : Nat) : Rat)) = ((zgS ks : Nat) : Rat) := by
  induction n with
  | zero =>
    intro ks h
    have : ks = [] := by simpa using h
    rw [this]; rfl
  | succ n ih =>
    intro ks h
    rcases ks with _ | ⟨a, as⟩
    · cases h
    · show ((a : Nat) : Rat) + hR n (fun w => ((zgF as w : Nat) : Rat)) = ((a + zgS as : Nat) : Rat)
      rw [ih (by simpa using h), Rat.natCast_add]
theorem zq2 (a b c d : Nat) : ((a * b + c * d : Nat) : Rat) = ((a : Nat) : Rat) * ((b : Nat) : Rat) + ((c : Nat) : Rat) * ((d : Nat) : Rat) := by rw [Rat.natCast_add, Rat.natCast_mul, Rat.natCast_mul]
theorem zgE_D : ∀ {n : Nat} {rows : List (List Nat)}, zgH n rows → (∀ p, p ∈ zgE n rows → 0 < p) → hkD n (zgL n rows) * ((zgD (zgE n rows) : Nat) : Rat) = ((zgN (zgE n rows) : Nat) : Rat) := by
  intro n
  induction n with
  | zero =>
    intro rows _ _
    show (1 : Rat) * ((1 : Nat) : Rat) = ((1 : Nat) : Rat)
    grind
  | succ n ih =>
    intro rows h hp
    rcases rows with _ | ⟨row, rest⟩
    · exact h.elim
    · rcases row with _ | ⟨r0, ks⟩
      · cases h.1
      · have l1 : ks.length = n := by simpa using h.1
        have i1 := ih (rows := zgG (r0 + zgS ks) r0 ks rest) (zgG_h l1 h.2) (fun p q => hp p (List.mem_cons_of_mem _ q))
        have k0 : 0 < r0 + zgS ks := hp _ (List.mem_cons_self ..)
        have sm : ((zgR ((r0 :: ks) :: rest) 0 : Nat) : Rat) + hR n (fun w => ((zgK ((r0 :: ks) :: rest) 0 (w + 1) : Nat) : Rat)) = ((r0 + zgS ks : Nat) : Rat) := by
          have e : hR n (fun w => ((zgK ((r0 :: ks) :: rest) 0 (w + 1) : Nat) : Rat)) = hR n (fun w => ((zgF ks w : Nat) : Rat)) := hR_congr (fun w _ => by
            have : zgK ((r0 :: ks) :: rest) 0 (w + 1) = zgF ks w := by
              unfold zgK
              rw [if_pos (by omega)]
              rfl
            rw [this])
          rw [e, zgS_q l1, Rat.natCast_add]
          rfl
        have ks_sy : ∀ u v, ((zgK ((r0 :: ks) :: rest) u v : Nat) : Rat) = ((zgK ((r0 :: ks) :: rest) v u : Nat) : Rat) := fun u v => by
          have : zgK ((r0 :: ks) :: rest) u v = zgK ((r0 :: ks) :: rest) v u := by
            unfold zgK
            by_cases a : u < v
            · rw [if_pos a, if_neg (by omega), if_pos a]
            · by_cases b : v < u
              · rw [if_neg a, if_pos b, if_pos b]
              · rw [if_neg a, if_neg b, if_neg b, if_neg a]
          rw [this]
        have kq : ((r0 + zgS ks : Nat) : Rat) ≠ 0 := fun z => by
          have : (r0 + zgS ks) = 0 := by
            have t : ((r0 + zgS ks : Nat) : Rat) = ((0 : Nat) : Rat) := z
            exact Rat.natCast_inj.mp t
          omega
        have st := hkLp_D (n := n) (r := fun u => ((zgR ((r0 :: ks) :: rest) u : Nat) : Rat)) (k := fun u v => ((zgK ((r0 :: ks) :: rest) u v : Nat) : Rat)) ks_sy (by rw [sm]; exact kq)
        rw [sm] at st
        have cg : hkD n (hkLp n (fun u => ((r0 + zgS ks : Nat) : Rat) * ((zgR ((r0 :: ks) :: rest) (u + 1) : Nat) : Rat) + ((zgK ((r0 :: ks) :: rest) 0 (u + 1) : Nat) : Rat) * ((zgR ((r0 :: ks) :: rest) 0 : Nat) : Rat)) (fun u v => ((r0 + zgS ks : Nat) : Rat) * ((zgK ((r0 :: ks) :: rest) (u + 1) (v + 1) : Nat) : Rat) + ((zgK ((r0 :: ks) :: rest) 0 (u + 1) : Nat) : Rat) * ((zgK ((r0 :: ks) :: rest) 0 (v + 1) : Nat) : Rat))) = hkD n (zgL n (zgG (r0 + zgS ks) r0 ks rest)) := hkD_congr (hkLp_congr (fun u hu => by
            have e1 := zgG_r (κ := r0 + zgS ks) (r0 := r0) l1 h.2 u hu
            have e2 : zgK ((r0 :: ks) :: rest) 0 (u + 1) = zgF ks u := by unfold zgK; rw [if_pos (by omega)]; rfl
            rw [e1, e2, zq2]
            rfl) (fun u v hu hv hne => by
            have e2 : ∀ u, zgK ((r0 :: ks) :: rest) 0 (u + 1) = zgF ks u := fun u => by unfold zgK; rw [if_pos (by omega)]; rfl
            rw [e2, e2]
            rcases Nat.lt_or_gt_of_ne hne with g | g
            · have e1 := zgG_u (κ := r0 + zgS ks) (r0 := r0) l1 h.2 u v g hv
              have e3 : zgK (zgG (r0 + zgS ks) r0 ks rest) u v = zgU (zgG (r0 + zgS ks) r0 ks rest) u v := by unfold zgK; rw [if_pos g]
              have e4 : zgK ((r0 :: ks) :: rest) (u + 1) (v + 1) = zgU rest u v := by unfold zgK; rw [if_pos (by omega)]; rfl
              rw [e3, e1, e4, zq2]
            · have e1 := zgG_u (κ := r0 + zgS ks) (r0 := r0) l1 h.2 v u g hu
              have e3 : zgK (zgG (r0 + zgS ks) r0 ks rest) u v = zgU (zgG (r0 + zgS ks) r0 ks rest) v u := by unfold zgK; rw [if_neg (by omega), if_pos g]
              have e4 : zgK ((r0 :: ks) :: rest) (u + 1) (v + 1) = zgU rest v u := by unfold zgK; rw [if_neg (by omega), if_pos (by omega)]; rfl
              rw [e3, e1, e4, zq2]
              grind))
        rw [cg] at st
        show hkD (n + 1) (zgL (n + 1) ((r0 :: ks) :: rest)) * (((r0 + zgS ks) ^ (zgE n (zgG (r0 + zgS ks) r0 ks rest)).length * zgD (zgE n (zgG (r0 + zgS ks) r0 ks rest)) : Nat) : Rat) = (((r0 + zgS ks) * zgN (zgE n (zgG (r0 + zgS ks) r0 ks rest)) : Nat) : Rat)
        rw [zgE_l (zgG_h l1 h.2), Rat.natCast_mul, Rat.natCast_mul, ← i1, Rat.natCast_pow]
        have st2 : ((r0 + zgS ks : Nat) : Rat) ^ n * hkD (n + 1) (zgL (n + 1) ((r0 :: ks) :: rest)) = ((r0 + zgS ks : Nat) : Rat) * hkD n (zgL n (zgG (r0 + zgS ks) r0 ks rest)) := st
        generalize hkD (n + 1) (zgL (n + 1) ((r0 :: ks) :: rest)) = A at *
        generalize hkD n (zgL n (zgG (r0 + zgS ks) r0 ks rest)) = B at *
        generalize ((zgD (zgE n (zgG (r0 + zgS ks) r0 ks rest)) : Nat) : Rat) = D at *
        generalize ((r0 + zgS ks : Nat) : Rat) ^ n = P at *
        generalize ((r0 + zgS ks : Nat) : Rat) = K at *
        clear cg i1 st
        grind
