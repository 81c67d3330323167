/-! nodes taken out one after the other, rounded down -/
noncomputable def zfA (κ k0 a b : Nat) : Nat := Nat.rec (motive := fun _ => Nat) a (fun _ _ => Nat.add a (Nat.div (Nat.mul k0 b) κ)) b
noncomputable def zfW (κ k0 : Nat) (as : List Nat) : List Nat → List Nat := List.rec (motive := fun _ => List Nat → List Nat) (fun _ => []) (fun a _ ih bs => List.rec (motive := fun _ => List Nat) [] (fun b bs _ => zfA κ k0 a b :: ih bs) bs) as
noncomputable def zfO (κ r0 k0 : Nat) (ks row : List Nat) : List Nat := Nat.rec (motive := fun _ => List Nat) row (fun _ _ => List.rec (motive := fun _ => List Nat) [] (fun r kk _ => zfA κ k0 r r0 :: zfW κ k0 kk ks) row) k0
noncomputable def zfG (κ r0 : Nat) (ks : List Nat) : List (List Nat) → List (List Nat) := List.rec (motive := fun _ => List (List Nat) → List (List Nat)) (fun _ => []) (fun k0 ks ih rows => List.rec (motive := fun _ => List (List Nat)) [] (fun row rest _ => zfO κ r0 k0 ks row :: ih rest) rows) ks
noncomputable def zfS (ks : List Nat) : Nat := List.rec (motive := fun _ => Nat) 0 (fun a _ ih => Nat.add a ih) ks
noncomputable def zfE (n : Nat) : List (List Nat) → Nat := Nat.rec (motive := fun _ => List (List Nat) → Nat) (fun _ => 1) (fun _ ih rows => List.rec (motive := fun _ => Nat) 0 (fun row rest _ => List.rec (motive := fun _ => Nat) 0 (fun r0 ks _ => Nat.rec (motive := fun _ => Nat) 0 (fun p _ => Nat.mul (Nat.succ p) (ih (zfG (Nat.succ p) r0 ks rest))) (Nat.add r0 (zfS ks))) row) rows) n
theorem zfA_eq (κ k0 a b : Nat) : zfA κ k0 a b = a + k0 * b / κ := by
  rcases b with _ | b
  · show a = a + k0 * 0 / κ
    rw [Nat.mul_zero, Nat.zero_div]; rfl
  · rfl
theorem zfS_eq : ∀ ks : List Nat, zfS ks = zgS ks
  | [] => rfl
  | a :: as => by
    show a + zfS as = a + zgS as
    rw [zfS_eq as]
theorem zfW_l {κ k0 : Nat} : ∀ {as bs : List Nat}, as.length = bs.length → (zfW κ k0 as bs).length = as.length
  | [], [], _ => rfl
  | [], _ :: _, h => by cases h
  | _ :: _, [], h => by cases h
  | a :: as, b :: bs, h => by
    show (zfW κ k0 as bs).length + 1 = as.length + 1
    rw [zfW_l (by simpa using h)]
theorem zfW_f {κ k0 : Nat} : ∀ {as bs : List Nat}, as.length = bs.length → ∀ i, i < as.length → zgF (zfW κ k0 as bs) i = zgF as i + k0 * zgF bs i / κ
  | [], _, _, i, hi => by cases hi
  | _ :: _, [], h, _, _ => by cases h
  | a :: as, b :: bs, h, i, hi => by
    rcases i with _ | i
    · exact zfA_eq κ k0 a b
    · exact zfW_f (as := as) (bs := bs) (by simpa using h) i (by simpa using hi)
theorem zfG_h {κ r0 : Nat} : ∀ {n : Nat} {ks : List Nat} {rest : List (List Nat)}, ks.length = n → zgH n rest → zgH n (zfG κ r0 ks rest) := by
  intro n
  induction n with
  | zero =>
    intro ks rest h1 h2
    have e1 : ks = [] := by simpa using h1
    have e2 : rest = [] := h2
    rw [e1, e2]
    rfl
  | succ n ih =>
    intro ks rest h1 h2
    rcases ks with _ | ⟨k0, ks⟩
    · cases h1
    · rcases rest with _ | ⟨row, rest⟩
      · exact h2.elim
      · rcases row with _ | ⟨r, kk⟩
        · cases h2.1
        · have l1 : ks.length = n := by simpa using h1
          have l2 : kk.length = n := by simpa using h2.1
          refine ⟨?_, ih l1 h2.2⟩
          rcases k0 with _ | k0
          · show (r :: kk).length = n + 1
            simpa using l2
          · show (zfW κ (k0 + 1) kk ks).length + 1 = n + 1
            rw [zfW_l (by rw [l1, l2]), l2]
theorem zfG_r {κ r0 : Nat} : ∀ {n : Nat} {ks : List Nat} {rest : List (List Nat)}, ks.length = n → zgH n rest → ∀ u, u < n → zgR (zfG κ r0 ks rest) u = zgR rest u + zgF ks u * r0 / κ := by
  intro n
  induction n with
  | zero => intro ks rest _ _ u hu; omega
  | succ n ih =>
    intro ks rest h1 h2 u hu
    rcases ks with _ | ⟨k0, ks⟩
    · cases h1
    · rcases rest with _ | ⟨row, rest⟩
      · exact h2.elim
      · rcases row with _ | ⟨r, kk⟩
        · cases h2.1
        · rcases u with _ | u
          · rcases k0 with _ | k0
            · show r = r + 0 * r0 / κ
              rw [Nat.zero_mul, Nat.zero_div]; rfl
            · exact zfA_eq κ (k0 + 1) r r0
          · exact ih (ks := ks) (rest := rest) (by simpa using h1) h2.2 u (by omega)
theorem zfG_u {κ r0 : Nat} : ∀ {n : Nat} {ks : List Nat} {rest : List (List Nat)}, ks.length = n → zgH n rest → ∀ u v, u < v → v < n → zgU (zfG κ r0 ks rest) u v = zgU rest u v + zgF ks u * zgF ks v / κ := by
  intro n
  induction n with
  | zero => intro ks rest _ _ u v _ hv; omega
  | succ n ih =>
    intro ks rest h1 h2 u v huv hv
    rcases ks with _ | ⟨k0, ks⟩
    · cases h1
    · rcases rest with _ | ⟨row, rest⟩
      · exact h2.elim
      · rcases row with _ | ⟨r, kk⟩
        · cases h2.1
        · obtain ⟨v, rfl⟩ : ∃ w, v = w + 1 := ⟨v - 1, by omega⟩
          have l1 : ks.length = n := by simpa using h1
          have l2 : kk.length = n := by simpa using h2.1
          rcases u with _ | u
          · rcases k0 with _ | k0
            · show zgF kk v = zgF kk v + 0 * zgF ks v / κ
              rw [Nat.zero_mul, Nat.zero_div]; rfl
            · show zgF (zfW κ (k0 + 1) kk ks) v = zgF kk v + (k0 + 1) * zgF ks v / κ
              exact zfW_f (by rw [l1, l2]) v (by omega)
          · exact ih (ks := ks) (rest := rest) l1 h2.2 u v (by omega) (by omega)
theorem zgK_sy (rows : List (List Nat)) (u v : Nat) : zgK rows u v = zgK rows v u := by
  unfold zgK
  by_cases a : u < v
  · rw [if_pos a, if_neg (by omega), if_pos a]
  · by_cases c : v < u
    · rw [if_neg a, if_pos c, if_pos c]
    · rw [if_neg a, if_neg c, if_neg c, if_neg a]
theorem zgL_sy (n : Nat) (rows : List (List Nat)) : hky (zgL n rows) := fun u v => by
  show hkLp n _ _ u v = hkLp n _ _ v u
  unfold hkLp
  by_cases q : u = v
  · rw [q]
  · rw [if_neg q, if_neg (Ne.symm q)]
    show -((zgK rows u v : Nat) : Rat) = -((zgK rows v u : Nat) : Rat)
    rw [zgK_sy rows u v]
theorem zgL_P {n : Nat} {rows : List (List Nat)} (h0 : ∀ v, v < n → 0 < zgR rows v) : hkP n (zgL n rows) := hkP_of (zgL_sy n rows) (fun z ⟨i, hi, hi2⟩ => by
  have q1 : 2 * hkQ n (zgL n rows) z = 2 * hR n (fun u => ((zgR rows u : Nat) : Rat) * (z u * z u)) + hR n (fun u => hR n (fun v => if v = u then 0 else ((zgK rows u v : Nat) : Rat) * ((z u - z v) * (z u - z v)))) := hkLp_Q (fun u v => by rw [zgK_sy]) z
  have n1 : 0 ≤ hR n (fun u => hR n (fun v => if v = u then 0 else ((zgK rows u v : Nat) : Rat) * ((z u - z v) * (z u - z v)))) := hR_nn (fun u _ => hR_nn (fun v _ => by
    by_cases q : v = u
    · rw [if_pos q]; grind
    · rw [if_neg q]; exact Rat.mul_nonneg Rat.natCast_nonneg (rsq _)))
  have n2 := hR_lea (n := n) (f := fun u => ((zgR rows u : Nat) : Rat) * (z u * z u)) (fun u _ => Rat.mul_nonneg Rat.natCast_nonneg (rsq _)) hi
  have n3 := Rat.mul_pos (a := ((zgR rows i : Nat) : Rat)) (Rat.natCast_pos.mpr (h0 i hi)) (rsq_pos hi2)
  grind)
/-- what is rounded down is not more -/
theorem hkLp_le {n : Nat} {r r' : Nat → Rat} {k k' : Nat → Nat → Rat} (hs : ∀ u v, k u v = k v u) (hs' : ∀ u v, k' u v = k' v u) (hr : ∀ u, u < n → r u ≤ r' u) (hk : ∀ u v, u < n → v < n → u ≠ v → k u v ≤ k' u v) (z : Nat → Rat) : hkQ n (hkLp n r k) z ≤ hkQ n (hkLp n r' k') z := by
  have q1 := hkLp_Q (n := n) (r := r) hs z
  have q2 := hkLp_Q (n := n) (r := r') hs' z
  have a1 := hR_le (n := n) (f := fun u => r u * (z u * z u)) (g := fun u => r' u * (z u * z u)) (fun u hu => by
    have := Rat.mul_nonneg (a := r' u - r u) (by have := hr u hu; grind) (rsq (z u))
    grind)
  have a2 := hR_le (n := n) (f := fun u => hR n (fun v => if v = u then 0 else k u v * ((z u - z v) * (z u - z v)))) (g := fun u => hR n (fun v => if v = u then 0 else k' u v * ((z u - z v) * (z u - z v)))) (fun u hu => hR_le (fun v hv => by
    by_cases q : v = u
    · rw [if_pos q, if_pos q]; grind
    · rw [if_neg q, if_neg q]
      have := Rat.mul_nonneg (a := k' u v - k u v) (by have := hk u v hu hv (Ne.symm q); grind) (rsq (z u - z v))
      grind))
  grind
theorem zf_fl {κ x y : Nat} (hκ : 0 < κ) : ((x + y / κ : Nat) : Rat) ≤ 1 / ((κ : Nat) : Rat) * (((κ : Nat) : Rat) * ((x : Nat) : Rat) + ((y : Nat) : Rat)) := by
  have k0 : (0 : Rat) < ((κ : Nat) : Rat) := Rat.natCast_pos.mpr hκ
  have h1 := Nat.mul_div_le y κ
  have h2 := Rat.natCast_le_natCast.mpr h1
  rw [Rat.natCast_mul] at h2
  rw [Rat.natCast_add]
  generalize ((y / κ : Nat) : Rat) = d at *
  generalize ((κ : Nat) : Rat) = k at *
  generalize ((x : Nat) : Rat) = a at *
  generalize ((y : Nat) : Rat) = c at *
  have e := Rat.mul_nonneg (a := 1 / k) (b := c - k * d) (by have := rdiv1 k0; grind) (by grind)
  have e2 : 1 / k * (k * a + c) = a + d + 1 / k * (c - k * d) := by grind
  rw [e2]
  grind
set_option maxHeartbeats 1000000 in
theorem zfE_D : ∀ {n : Nat} {rows : List (List Nat)}, zgH n rows → (∀ v, v < n → 0 < zgR rows v) → ((zfE n rows : Nat) : Rat) ≤ hkD n (zgL n rows) := by
  intro n
  induction n with
  | zero =>
    intro rows _ _
    show ((1 : Nat) : Rat) ≤ 1
    have : ((1 : Nat) : Rat) = 1 := rfl
    rw [this]; grind
  | succ n ih =>
    intro rows h h0
    rcases rows with _ | ⟨row, rest⟩
    · exact h.elim
    · rcases row with _ | ⟨r0, ks⟩
      · cases h.1
      · have l1 : ks.length = n := by simpa using h.1
        have rp : 0 < r0 := h0 0 (by omega)
        obtain ⟨p, hp⟩ : ∃ p, r0 + zgS ks = p + 1 := ⟨r0 + zgS ks - 1, by omega⟩
        have e0 : zfE (n + 1) ((r0 :: ks) :: rest) = (p + 1) * zfE n (zfG (p + 1) r0 ks rest) := by
          show Nat.rec (motive := fun _ => Nat) 0 (fun p _ => Nat.mul (Nat.succ p) (zfE n (zfG (Nat.succ p) r0 ks rest))) (Nat.add r0 (zfS ks)) = _
          have : Nat.add r0 (zfS ks) = p + 1 := by rw [zfS_eq]; exact hp
          rw [this]
          rfl
        have h0r : ∀ v, v < n → 0 < zgR rest v := fun v hv => h0 (v + 1) (by omega)
        have i1 := ih (rows := zfG (p + 1) r0 ks rest) (zfG_h l1 h.2) (fun v hv => by
          rw [zfG_r l1 h.2 v hv]
          exact Nat.add_pos_left (h0r v hv) _)
        -- one node taken out
        have sm : ((zgR ((r0 :: ks) :: rest) 0 : Nat) : Rat) + hR n (fun w => ((zgK ((r0 :: ks) :: rest) 0 (w + 1) : Nat) : Rat)) = ((p + 1 : Nat) : Rat) := by
          have e : hR n (fun w => ((zgK ((r0 :: ks) :: rest) 0 (w + 1) : Nat) : Rat)) = hR n (fun w => ((zgF ks w : Nat) : Rat)) := hR_congr (fun w _ => by
            have : zgK ((r0 :: ks) :: rest) 0 (w + 1) = zgF ks w := by
              unfold zgK
              rw [if_pos (by omega)]
              rfl
            rw [this])
          rw [e, zgS_q l1]
          show ((r0 : Nat) : Rat) + ((zgS ks : Nat) : Rat) = _
          rw [← Rat.natCast_add, hp]
        have kp : (0 : Rat) < ((p + 1 : Nat) : Rat) := Rat.natCast_pos.mpr (by omega)
        have ks0 : ∀ u v, ((zgK ((r0 :: ks) :: rest) u v : Nat) : Rat) = ((zgK ((r0 :: ks) :: rest) v u : Nat) : Rat) := fun u v => by rw [zgK_sy]
        have S := hkLp_S (n := n) (r := fun u => ((zgR ((r0 :: ks) :: rest) u : Nat) : Rat)) (k := fun u v => ((zgK ((r0 :: ks) :: rest) u v : Nat) : Rat)) ks0 (by rw [sm]; grind)
        rw [sm] at S
        have d0 : zgL (n + 1) ((r0 :: ks) :: rest) 0 0 = ((p + 1 : Nat) : Rat) := by
          rw [← sm]
          show (if 0 = 0 then ((zgR ((r0 :: ks) :: rest) 0 : Nat) : Rat) + ((if 0 = 0 then 0 else ((zgK ((r0 :: ks) :: rest) 0 0 : Nat) : Rat)) + hR n (fun w => if w + 1 = 0 then 0 else ((zgK ((r0 :: ks) :: rest) 0 (w + 1) : Nat) : Rat))) else -((zgK ((r0 :: ks) :: rest) 0 0 : Nat) : Rat)) = _
          rw [if_pos rfl, if_pos rfl, hR_congr (f := fun w => if w + 1 = 0 then 0 else ((zgK ((r0 :: ks) :: rest) 0 (w + 1) : Nat) : Rat)) (g := fun w => ((zgK ((r0 :: ks) :: rest) 0 (w + 1) : Nat) : Rat)) (fun w _ => by rw [if_neg (by omega)])]
          grind
        generalize hr' : (fun u => ((p + 1 : Nat) : Rat) * ((zgR ((r0 :: ks) :: rest) (u + 1) : Nat) : Rat) + ((zgK ((r0 :: ks) :: rest) 0 (u + 1) : Nat) : Rat) * ((zgR ((r0 :: ks) :: rest) 0 : Nat) : Rat)) = r' at S
        generalize hk' : (fun u v => ((p + 1 : Nat) : Rat) * ((zgK ((r0 :: ks) :: rest) (u + 1) (v + 1) : Nat) : Rat) + ((zgK ((r0 :: ks) :: rest) 0 (u + 1) : Nat) : Rat) * ((zgK ((r0 :: ks) :: rest) 0 (v + 1) : Nat) : Rat)) = k' at S
        have sc : ∀ u v, u < n → v < n → hkS (zgL (n + 1) ((r0 :: ks) :: rest)) u v = hkLp n (fun u => 1 / ((p + 1 : Nat) : Rat) * r' u) (fun u v => 1 / ((p + 1 : Nat) : Rat) * k' u v) u v := fun u v hu hv => by
          rw [show hkS (zgL (n + 1) ((r0 :: ks) :: rest)) u v = _ from S u v hu hv]
          unfold hkLp
          by_cases q : u = v
          · rw [if_pos q, if_pos q]
            have : hR n (fun w => if w = u then 0 else 1 / ((p + 1 : Nat) : Rat) * k' u w) = 1 / ((p + 1 : Nat) : Rat) * hR n (fun w => if w = u then 0 else k' u w) := by
              rw [← hR_mul]
              exact hR_congr (fun w _ => by split <;> grind)
            rw [this]
            grind
          · rw [if_neg q, if_neg q]; grind
        have ksy : ∀ u v, k' u v = k' v u := fun u v => by
          rw [← hk']
          show ((p + 1 : Nat) : Rat) * ((zgK ((r0 :: ks) :: rest) (u + 1) (v + 1) : Nat) : Rat) + ((zgK ((r0 :: ks) :: rest) 0 (u + 1) : Nat) : Rat) * ((zgK ((r0 :: ks) :: rest) 0 (v + 1) : Nat) : Rat) = ((p + 1 : Nat) : Rat) * ((zgK ((r0 :: ks) :: rest) (v + 1) (u + 1) : Nat) : Rat) + ((zgK ((r0 :: ks) :: rest) 0 (v + 1) : Nat) : Rat) * ((zgK ((r0 :: ks) :: rest) 0 (u + 1) : Nat) : Rat)
          rw [zgK_sy _ (u + 1) (v + 1)]
          grind
        have Hsy : hky (hkLp n (fun u => 1 / ((p + 1 : Nat) : Rat) * r' u) (fun u v => 1 / ((p + 1 : Nat) : Rat) * k' u v)) := fun u v => by
          unfold hkLp
          by_cases q : u = v
          · rw [q]
          · rw [if_neg q, if_neg (Ne.symm q)]
            show -(1 / ((p + 1 : Nat) : Rat) * k' u v) = -(1 / ((p + 1 : Nat) : Rat) * k' v u)
            rw [ksy u v]
        have kF : ∀ u, zgK ((r0 :: ks) :: rest) 0 (u + 1) = zgF ks u := fun u => by
          unfold zgK
          rw [if_pos (by omega)]
          rfl
        have kU : ∀ u v, u < v → zgK ((r0 :: ks) :: rest) (u + 1) (v + 1) = zgU rest u v := fun u v huv => by
          unfold zgK
          rw [if_pos (by omega)]
          rfl
        have fl : ∀ u v, u < v → v < n → ((zgK (zfG (p + 1) r0 ks rest) u v : Nat) : Rat) ≤ 1 / ((p + 1 : Nat) : Rat) * k' u v := fun u v huv hv => by
          have e : zgK (zfG (p + 1) r0 ks rest) u v = zgU rest u v + zgF ks u * zgF ks v / (p + 1) := by
            unfold zgK
            rw [if_pos huv]
            exact zfG_u l1 h.2 u v huv hv
          have := zf_fl (κ := p + 1) (x := zgU rest u v) (y := zgF ks u * zgF ks v) (by omega)
          rw [Rat.natCast_mul] at this
          rw [e, ← hk']
          show _ ≤ 1 / ((p + 1 : Nat) : Rat) * (((p + 1 : Nat) : Rat) * ((zgK ((r0 :: ks) :: rest) (u + 1) (v + 1) : Nat) : Rat) + ((zgK ((r0 :: ks) :: rest) 0 (u + 1) : Nat) : Rat) * ((zgK ((r0 :: ks) :: rest) 0 (v + 1) : Nat) : Rat))
          rw [kF, kF, kU u v huv]
          exact this
        have mono := (hkD_mono (zgL_sy n (zfG (p + 1) r0 ks rest)) Hsy (zgL_P (fun v hv => by
          rw [zfG_r l1 h.2 v hv]
          exact Nat.add_pos_left (h0r v hv) _)) (hkLp_le (fun u v => by rw [zgK_sy]) (fun u v => by rw [ksy u v]) (fun u hu => by
            have := zf_fl (κ := p + 1) (x := zgR rest u) (y := zgF ks u * r0) (by omega)
            rw [Rat.natCast_mul] at this
            rw [zfG_r l1 h.2 u hu, ← hr']
            show _ ≤ 1 / ((p + 1 : Nat) : Rat) * (((p + 1 : Nat) : Rat) * ((zgR ((r0 :: ks) :: rest) (u + 1) : Nat) : Rat) + ((zgK ((r0 :: ks) :: rest) 0 (u + 1) : Nat) : Rat) * ((zgR ((r0 :: ks) :: rest) 0 : Nat) : Rat))
            rw [kF]
            exact this) (fun u v hu hv hne => by
            rcases Nat.lt_or_gt_of_ne hne with g | g
            · exact fl u v g hv
            · rw [zgK_sy, ksy u v]; exact fl v u g hu))).2
        rw [e0, Rat.natCast_mul]
        show _ ≤ zgL (n + 1) ((r0 :: ks) :: rest) 0 0 * hkD n (hkS (zgL (n + 1) ((r0 :: ks) :: rest)))
        rw [d0, hkD_congr sc]
        have mono2 : hkD n (zgL n (zfG (p + 1) r0 ks rest)) ≤ hkD n (hkLp n (fun u => 1 / ((p + 1 : Nat) : Rat) * r' u) (fun u v => 1 / ((p + 1 : Nat) : Rat) * k' u v)) := mono
        generalize hkD n (hkLp n (fun u => 1 / ((p + 1 : Nat) : Rat) * r' u) (fun u v => 1 / ((p + 1 : Nat) : Rat) * k' u v)) = DD at *
        generalize hkD n (zgL n (zfG (p + 1) r0 ks rest)) = DG at *
        generalize ((zfE n (zfG (p + 1) r0 ks rest) : Nat) : Rat) = E at *
        have := Rat.mul_nonneg (a := ((p + 1 : Nat) : Rat)) (b := DD - E) (by grind) (by grind)
        generalize ((p + 1 : Nat) : Rat) = kk at *
        clear S sc sm d0 fl mono mono2 i1 ks0 hr' hk' ksy Hsy
        grind
