/-! that the class's solve() goes through -/
theorem s_isIn {y0 y1 : Int32} {S : ZS} {Q : Int32 → ZS → Prop} (q : ∀ v, Q v S) : X3_isIn y0 y1 S Q := by
  unfold X3_isIn X3_isIn_b14
  exact ⟨fun _ => ⟨Or.inr rfl, q 1⟩, fun _ => ⟨Or.inl rfl, q 0⟩⟩
theorem s_addUp {nc nr c : Nat} {x3 : Int32} {S : ZS} {Q : Int32 → ZS → Prop} (hC : zC S nc nr) (hc : c < nc) (q : ∀ v, Q v S) : X3_addUp x3 (nI c) S Q := by
  have h1 := hC.1
  have h2 := hC.2.1
  unfold X3_addUp
  refine zl_up2 nr (fun i x T => T = S) (by omega) (fun i x T k hi hJ hk => ?_) 0 S rfl
  subst hJ
  show X3_addUp_B6 x3 (nI c) x (nI i) T Q k
  unfold X3_addUp_B6 X3_addUp_b50 X3_addUp_b44
  rw [hC.2.2.2.1]
  refine ⟨fun _ => q x, fun z => ?_⟩
  have hlt := up_on (by omega) hi z
  have hvr : vp_in (nI i) 8 := vp_in_nI (by omega) (by omega)
  have go : ∀ x' w : Int32, w = nI i + 1 → k (x', w, T) := by
    intro x' w ew
    rw [nI_1] at ew
    subst ew
    exact hk hlt _ _ rfl
  exact s_isIn (fun v => ⟨fun _ w ew => go _ w ew, fun _ => ⟨hvr, vp_in_nI (by omega) (by omega), hvr, fun x' _ w ew => go _ w ew⟩⟩)
theorem s_addRights {nc nr : Nat} {x3 : Int32} {S : ZS} {Q : Int32 → ZS → Prop} (hC : zC S nc nr) (q : ∀ v, Q v S) : X3_addRights x3 S Q := by
  have h2 := hC.2.1
  unfold X3_addRights
  refine zl_up2 nr (fun i x T => T = S) (by omega) (fun i x T k hi hJ hk => ?_) 0 S rfl
  subst hJ
  show X3_addRights_B6 x3 x (nI i) T Q k
  unfold X3_addRights_B6 X3_addRights_b47 X3_addRights_b41
  rw [hC.2.2.2.1]
  refine ⟨fun _ => q x, fun z => ?_⟩
  have hlt := up_on (by omega) hi z
  have hvr : vp_in (nI i) 8 := vp_in_nI (by omega) (by omega)
  have go : ∀ x' w : Int32, w = nI i + 1 → k (x', w, T) := by
    intro x' w ew
    rw [nI_1] at ew
    subst ew
    exact hk hlt _ _ rfl
  exact s_isIn (fun v => ⟨fun _ w ew => go _ w ew, fun _ => ⟨hvr, hvr, fun x' _ w ew => go _ w ew⟩⟩)
theorem s_mayStand {nc nr : Nat} {x3 x4 : Int32} {S : ZS} {Q : Int32 → ZS → Prop} (hC : zC S nc nr) (q : ∀ v, Q v S) : X3_mayStand x3 x4 S Q := by
  have h2 := hC.2.1
  unfold X3_mayStand
  refine zl_up nr (fun i T => T = S) (by omega) (fun i T k hi hJ hk => ?_) S rfl
  subst hJ
  show X3_mayStand_B3 x3 x4 (nI i) T Q k
  unfold X3_mayStand_B3 X3_mayStand_b35 X3_mayStand_b60
  rw [hC.2.2.2.1]
  refine ⟨fun _ => ⟨Or.inr rfl, q 1⟩, fun z => ?_⟩
  have hlt := up_on (by omega) hi z
  have hvr : vp_in (nI i) 8 := vp_in_nI (by omega) (by omega)
  have go : ∀ t0 : Int32, X3_mayStand_b36 x3 x4 (nI i) t0 T Q k := by
    intro t0
    have nx : ∀ w : Int32, w = nI i + 1 → k (w, T) := by
      intro w ew
      rw [nI_1] at ew
      subst ew
      exact hk hlt _ rfl
    unfold X3_mayStand_b36 X3_mayStand_b54 X3_mayStand_b52
    exact ⟨fun _ w ew => nx w ew, fun _ => ⟨hvr, fun _ w ew => nx w ew, fun _ => ⟨Or.inl rfl, q 0⟩⟩⟩
  exact ⟨hvr, fun _ => s_isIn (fun v => ⟨fun _ => go _, fun _ => go _⟩), fun _ => go _⟩
theorem s_provingSide {nc nr : Nat} {x3 : Int32} {S : ZS} {Q : Int32 → ZS → Prop} (hC : zC S nc nr) (q : ∀ v, Q v S) : X3_provingSide x3 S Q := by
  have h1 := hC.1
  unfold X3_provingSide
  refine zl_up3 nc (fun i x y T => T = S) (by omega) (fun i x y T k hi hJ hk => ?_) 0 0 S rfl
  subst hJ
  show X3_provingSide_B9 x3 x y (nI i) T Q k
  unfold X3_provingSide_B9
  rw [hC.2.2.1]
  refine ⟨fun _ => ?_, fun z => ?_⟩
  · unfold X3_provingSide_b101
    have b130 : ∀ v : Int32, X3_provingSide_b130 x3 y v T Q := by
      intro v
      unfold X3_provingSide_b130 X3_provingSide_b150
      exact ⟨fun _ => q 0, fun _ => s_mayStand hC (fun v => ⟨fun _ => q 0, fun _ => q (-1)⟩)⟩
    exact s_addRights hC (fun v => ⟨fun _ => b130 v, fun _ => s_mayStand hC (fun w => ⟨fun _ => b130 v, fun _ => q 1⟩)⟩)
  · have hlt := up_on (by omega) hi z
    have hvc : vp_in (nI i) 10 := vp_in_nI (by omega) (by omega)
    have b92 : ∀ x' t0 t1 : Int32, X3_provingSide_b92 x3 x' (nI i) t0 t1 T Q k := by
      intro x' t0 t1
      unfold X3_provingSide_b92
      intro y' _ w ew
      rw [nI_1] at ew
      subst ew
      exact hk hlt _ _ _ rfl
    have b59 : ∀ x7 t0 t1 : Int32, X3_provingSide_b59 x3 y (nI i) x7 t0 t1 T Q k := by
      intro x7 t0 t1
      unfold X3_provingSide_b59
      intro x' _
      exact ⟨fun _ => ⟨hvc, b92 _ _ _⟩, fun _ => ⟨hvc, b92 _ _ _⟩⟩
    exact s_addUp hC hlt (fun v => ⟨fun _ => ⟨hvc, b59 _ _ _⟩, fun _ => ⟨hvc, b59 _ _ _⟩⟩)
theorem s_search {nc nr : Nat} {S T : ZS} {Q : ZS → Prop} (hC : zC S nc nr) (hk : zKp S T) (q : ∀ U, zKp S U → Q U) : X3_search T Q := by
  have h2 := hC.2.1
  have hp := pow_le h2
  have hp0 : 0 < 2 ^ nr := Nat.two_pow_pos nr
  unfold X3_search
  intro T1 e1 T2 e2
  subst e1
  subst e2
  refine zl_cf (fun s => s.1) (2 ^ nr) 1 (fun i s => zKp S s.2) (by omega) (fun i s k hi1 hi ec hJ hk2 => ?_) _ (by omega) rfl ((hk.u rfl (by decide)).u rfl (by decide))
  obtain ⟨x, U⟩ := s
  dsimp only at ec hJ
  subst ec
  show X3_search_B12 (nI i) U Q k
  unfold X3_search_B12 X3_search_b51
  rw [(hC.kp hJ).2.2.2.1, two_pow nr h2]
  refine ⟨fun _ => ⟨fun _ => q U hJ, fun z => ?_⟩, fun _ => q U hJ⟩
  have hlt := up_onG (by omega) hi z
  intro U1 eU1
  subst eU1
  have k1 : zKp S (zu U 5 0 (nI i)) := hJ.u rfl (by decide)
  refine s_provingSide (hC.kp k1) (fun v U2 eU2 w ew => ?_)
  rw [nI_1] at ew
  subst ew
  subst eU2
  exact hk2 hlt _ rfl (k1.u rfl (by decide))
theorem kpt_40 {v : Nat} (h : v ≤ 8) : kpt (40 + v) = false := by
  cases e : kpt (40 + v)
  · rfl
  · unfold kpt at e
    simp only [Bool.or_eq_true, Bool.and_eq_true, decide_eq_true_eq] at e
    omega
theorem kpt_50 {v : Nat} (h : v ≤ 10) : kpt (50 + v) = false := by
  cases e : kpt (50 + v)
  · rfl
  · unfold kpt at e
    simp only [Bool.or_eq_true, Bool.and_eq_true, decide_eq_true_eq] at e
    omega
theorem s_limit {y1 y2 y3 : Int32} {T : ZS} {Q : ZS → Prop} (h1 : nod y1) (h2 : nod y2) (q : ∀ a b v, a ≤ 8 → Q (zu T (40 + a) b v)) : X2_limit y1 y2 y3 T Q := by
  unfold X2_limit
  refine ⟨h1.v, h1.v, h2.v, h2.v, fun U eU => ?_⟩
  subst eU
  obtain ⟨a, ha, rfl⟩ := h1
  rw [nI_clamp (by omega)]
  exact q a _ _ ha
theorem s_setLimits {m : Nat} {S T : ZS} {Q : ZS → Prop} (hk : zKp S T) (hm : nOK T m) (q : ∀ U, zKp S U → Q U) : X2_setLimits T Q := by
  have h18 := hm.1
  unfold X2_setLimits
  refine zl_up 9 (fun i U => zKp S U ∧ nOK U m) (by omega) (fun i U k hi hJ hk2 => ?_) T ⟨hk, hm⟩
  obtain ⟨kU, mU⟩ := hJ
  show X2_setLimits_B2 (nI i) U Q k
  unfold X2_setLimits_B2
  refine ⟨fun _ => ?_, fun z => ?_⟩
  · unfold X2_setLimits_b34
    refine zl_up m (fun a V => zKp S V ∧ nOK V m) (by omega) (fun a V k3 ha hJ hk3 => ?_) U ⟨kU, mU⟩
    obtain ⟨kV, mV⟩ := hJ
    show X2_setLimits_B36 (nI a) V Q k3
    unfold X2_setLimits_B36 X2_setLimits_b122
    rw [mV.2.1]
    refine ⟨fun _ => q V kV, fun z2 => ?_⟩
    have hal := up_onG (by omega) ha z2
    have hva : vp_in (nI a) 18 := vp_in_nI (by omega) (by omega)
    rw [nI_clamp (by omega)]
    refine ⟨hva, fun x3 e3 => ⟨hva, fun x4 e4 => ?_⟩⟩
    have n3 : nod x3 := by rw [e3]; exact (mV.2.2 a hal).1
    have n4 : nod x4 := by rw [e4]; exact (mV.2.2 a hal).2
    have nx : ∀ W, zKp S W → nOK W m → X2_setLimits_b116 (nI a) W Q k3 := by
      intro W kW mW
      unfold X2_setLimits_b116
      intro w ew
      rw [nI_1] at ew
      subst ew
      exact hk3 hal W ⟨kW, mW⟩
    have b87 : ∀ W, zKp S W → nOK W m → X2_setLimits_b87 (nI a) x3 x4 W Q k3 := by
      intro W kW mW
      unfold X2_setLimits_b87
      exact ⟨hva, hva, fun _ => nx W kW mW, fun _ => ⟨hva, s_limit n3 n4 (fun b c v hb => nx _ (kW.u (kpt_40 hb) (by omega)) (mW.u (by omega) (by omega) (by omega)))⟩⟩
    exact ⟨hva, hva, fun _ => b87 V kV mV, fun _ => ⟨hva, s_limit n4 n3 (fun b c v hb => b87 _ (kV.u (kpt_40 hb) (by omega)) (mV.u (by omega) (by omega) (by omega)))⟩⟩
  · have hlt := up_on (n := 9) (by omega) hi z
    have hvi : vp_in (nI i) 9 := vp_in_nI (by omega) (by omega)
    rw [nI_clamp (by omega)]
    refine ⟨hvi, m_fill (by omega) (fun V _ hV _ => ⟨hvi, hvi, fun W eW w ew => ?_⟩)⟩
    rw [nI_1] at ew
    subst ew
    subst eW
    have kV : zKp S V := kU.tr (zKp.of (fun n hn => hV n (fun e => by rw [e, kpt_40 (by omega)] at hn; cases hn)) (hV 61 (by omega)))
    have mV : nOK V m := ⟨h18, by rw [hV 3 (by omega)]; exact mU.2.1, fun a ha => by rw [hV 26 (by omega), hV 27 (by omega)]; exact mU.2.2 a ha⟩
    exact hk2 hlt _ ⟨kV.u (kpt_40 (by omega)) (by omega), mV.u (by omega) (by omega) (by omega)⟩
theorem s_tighten {S T : ZS} {Q : ZS → Prop} (hk : zKp S T) (q : ∀ U, zKp S U → Q U) : X2_tightenLimits T Q := by
  unfold X2_tightenLimits
  refine zl_up 9 (fun i U => zKp S U) (by omega) (fun i U k hi hJ hk2 => ?_) T hk
  show X2_tightenLimits_B2 (nI i) U Q k
  unfold X2_tightenLimits_B2 X2_tightenLimits_b47
  refine ⟨fun _ => q U hJ, fun z => ?_⟩
  have hlt := up_on (n := 9) (by omega) hi z
  have hvi : vp_in (nI i) 9 := vp_in_nI (by omega) (by omega)
  refine zl_up 9 (fun j V => zKp S V) (by omega) (fun j V k3 hj hJ3 hk3 => ?_) U hJ
  show X2_tightenLimits_B10 (nI i) (nI j) V Q k k3
  unfold X2_tightenLimits_B10 X2_tightenLimits_b41
  refine ⟨fun _ w ew => ?_, fun z2 => ?_⟩
  · rw [nI_1] at ew
    subst ew
    exact hk2 hlt _ hJ3
  · have hjl := up_on (n := 9) (by omega) hj z2
    have hvj : vp_in (nI j) 9 := vp_in_nI (by omega) (by omega)
    have nx : ∀ W, zKp S W → X2_tightenLimits_b35 (nI i) (nI j) W Q k k3 := by
      intro W kW
      unfold X2_tightenLimits_b35
      intro w ew
      rw [nI_1] at ew
      subst ew
      exact hk3 hjl _ kW
    refine ⟨hvj, hvi, fun _ => nx V hJ3, fun _ => ?_⟩
    unfold X2_tightenThrough
    refine zl_up 9 (fun t W => zKp S W) (by omega) (fun t W k4 ht hJ4 hk4 => ?_) V hJ3
    show X2_tightenThrough_B2 (nI j) (nI i) (nI t) W _ k4
    unfold X2_tightenThrough_B2 X2_tightenThrough_b50 X2_tightenThrough_b44
    refine ⟨fun _ => nx W hJ4, fun z3 => ?_⟩
    have htl := up_on (n := 9) (by omega) ht z3
    have hvt : vp_in (nI t) 9 := vp_in_nI (by omega) (by omega)
    refine ⟨hvi, hvt, fun _ w ew => ?_, fun _ => ⟨hvj, hvi, hvi, hvt, s_limit (nod_nI (by omega)) (nod_nI (by omega)) (fun b c v hb w ew => ?_)⟩⟩
    · rw [nI_1] at ew
      subst ew
      exact hk4 htl _ hJ4
    · rw [nI_1] at ew
      subst ew
      exact hk4 htl _ (hJ4.u (kpt_40 hb) (by omega))
theorem s_leastBeside {y1 y2 : Int32} {S : ZS} {Q : Int32 → ZS → Prop} (h1 : nod y1) (h2 : nod y2) (q : ∀ v, Q v S) : X2_leastBeside y1 y2 S Q := by
  unfold X2_leastBeside X2_leastBeside_b33
  exact ⟨h1.v, h2.v, fun _ => q _, fun _ => ⟨h2.v, h1.v, h2.v, q _⟩⟩
theorem s_greatestBeside {y1 y2 : Int32} {S : ZS} {Q : Int32 → ZS → Prop} (h1 : nod y1) (h2 : nod y2) (q : ∀ v, Q v S) : X2_greatestBeside y1 y2 S Q := by
  unfold X2_greatestBeside X2_greatestBeside_b33
  exact ⟨h2.v, h1.v, fun _ => q _, fun _ => ⟨h2.v, h2.v, h1.v, q _⟩⟩
theorem s_nearestToZero {r : Nat} {S : ZS} {Q : Int32 → ZS → Prop} (hr : r < 8) (q : ∀ v, Q v S) : X2_nearestToZero (nI r) S Q := by
  have nr : nod (nI r) := nod_nI (by omega)
  unfold X2_nearestToZero
  refine s_leastBeside nr nod8 (fun a => s_greatestBeside nr nod8 (fun b => ?_))
  refine zl_up3 r (fun i x y T => T = S) (by omega) (fun i x y T k hi hJ hk => ?_) a b S rfl
  subst hJ
  show X2_nearestToZero_B19 (nI r) x y (nI i) T Q k
  unfold X2_nearestToZero_B19 X2_nearestToZero_b55 X2_nearestToZero_b68
  refine ⟨fun _ => ⟨fun _ => q _, fun _ => q _⟩, fun z => ?_⟩
  have hlt := up_on (n := r) (by omega) hi z
  have ni : nod (nI i) := nod_nI (by omega)
  refine s_leastBeside nr ni (fun c x' _ => s_greatestBeside nr ni (fun d y' _ w ew => ?_))
  rw [nI_1] at ew
  subst ew
  exact hk hlt _ _ _ rfl
theorem s_choose {m n : Nat} {S T : ZS} {Q : ZS → Prop} (hn : n ≤ 8) (hk : zKp S T) (hm : nOK T m) (q : ∀ U, zKp S U → Q U) : X2_choose (nI n) T Q := by
  unfold X2_choose
  refine s_setLimits hk hm (fun U kU => s_tighten kU (fun V kV => ⟨v8, fun W eW => ?_⟩))
  subst eW
  refine zl_up n (fun i Y => zKp S Y) (by omega) (fun i Y k hi hJ hk2 => ?_) _ (kV.u rfl (by decide))
  show X2_choose_B20 (nI n) (nI i) Y Q k
  unfold X2_choose_B20 X2_choose_b64
  refine ⟨fun _ => q Y hJ, fun z => ?_⟩
  have hlt := up_on (n := n) (by omega) hi z
  have hvi : vp_in (nI i) 9 := vp_in_nI (by omega) (by omega)
  have hvr : vp_in (nI i) 8 := vp_in_nI (by omega) (by omega)
  refine s_nearestToZero (by omega) (fun v => ⟨hvi, fun Y1 e1 => ⟨hvi, hvr, hvr, fun Y2 e2 w ew => ?_⟩⟩)
  rw [nI_1] at ew
  subst ew
  subst e1
  subst e2
  exact hk2 hlt _ ((hJ.u rfl (by decide)).u rfl (by decide))
theorem s_solveFlow {nc nr : Nat} {S T : ZS} {Q : Int32 → ZS → Prop} (hC : zC S nc nr) (hk : zKp S T) (q : ∀ v U, (v = 1 ∨ v = 3) → zKp S U → Q v U) : X6_solveFlow T Q := by
  have h1 := hC.1
  unfold X6_solveFlow
  refine s_lay (hC.kp hk) (fun U m kU mU => s_balance (hk.tr kU) mU (fun v V kV mV => ⟨fun _ => ?_, fun _ => ?_⟩))
  · exact s_search hC kV (fun W kW => q 3 W (Or.inr rfl) kW)
  · have hV := hC.kp kV
    rw [hV.2.2.1]
    refine ⟨⟨by decide, by decide, nI_pos (by omega), ?_, ?_⟩, fun W eW => ?_⟩
    · show 0 + (nI nc).toNatClampNeg ≤ 18
      rw [nI_clamp (by omega)]; omega
    · show 0 + (nI nc).toNatClampNeg ≤ 10
      rw [nI_clamp (by omega)]; omega
    · have kW : zKp S W := by rw [eW]; exact kV.ur rfl (by decide)
      have mW : nOK W m := by
        rw [eW]
        refine ⟨mV.1, ?_, fun a ha => ?_⟩
        · unfold zur; dsimp only; rw [if_neg (by decide)]; exact mV.2.1
        · unfold zur; dsimp only; rw [if_neg (by decide), if_neg (by decide)]; exact mV.2.2 a ha
      rw [(hC.kp kW).2.2.2.1]
      exact s_choose hC.2.1 kW mW (fun Y kY => q 1 Y (Or.inl rfl) kY)
/-- numbers -/
theorem nI_back {x : Int32} (h : 0 ≤ x.toInt) : x = nI x.toInt.toNat := by
  have := i_rng x
  rw [i_eq, nI_toInt (by omega)]
  omega
theorem nI_mul (a b : Nat) : nI a * nI b = nI (a * b) := (Int32.ofNat_mul a b).symm
theorem nI_subN {a b : Nat} (h : b ≤ a) : nI a - nI b = nI (a - b) := (Int32.ofNat_sub a b h).symm
theorem nI_div {a b : Nat} (ha : a < 2 ^ 31) (hb : b < 2 ^ 31) : nI a / nI b = nI (a / b) := (Int32.ofNat_div ha hb).symm
/-- a knapsack's numbers -/
def kz (S : ZS) (nc l : Nat) (al hi : Nat → Nat) : Prop := nc ≤ 10 ∧ l ≤ 300 ∧ S.1 12 0 = nI l ∧ ∀ c, c < nc → S.1 14 c = nI (al c) ∧ 1 ≤ al c ∧ al c ≤ 100 ∧ S.1 9 c = nI (hi c) ∧ hi c ≤ 1000
theorem kn.z {S : ZS} {nc nr : Nat} (hC : zC S nc nr) (h : kn S nc nr) : kz S nc (S.1 12 0).toInt.toNat (fun c => (S.1 14 c).toInt.toNat) (fun c => (S.1 9 c).toInt.toNat) := by
  obtain ⟨h1, h2, h3, h4, h5, h6, h7, h8, h9, h10, h11⟩ := hC
  obtain ⟨⟨g1, g2, g3, g4⟩, g5⟩ := h
  refine ⟨h1, by omega, nI_back g3, fun c hc => ?_⟩
  have a1 := g5 c hc
  have a2 := h10 0 c (by omega) (by omega)
  have a3 := (h7 c hc).2.2.2.1
  have c0 : (0 : Int32).toInt = 0 := by decide
  unfold zlim at a2
  unfold zok at a3
  rw [a1.2, c0] at a3
  have a2' : (S.1 14 c).toInt ≤ 100 := a2.2
  dsimp only
  exact ⟨nI_back (by omega), by omega, by omega, nI_back (by omega), by omega⟩
theorem kz.kp {S T : ZS} {nc l : Nat} {al hi : Nat → Nat} (h : kz S nc l al hi) (hk : zKp S T) : kz T nc l al hi := by
  unfold kz
  rw [hk.1 12 rfl, hk.1 14 rfl, hk.1 9 rfl]
  exact h
theorem s_mostOf {nc l c w : Nat} {al hi : Nat → Nat} {T : ZS} {Q : Int32 → ZS → Prop} (h : kz T nc l al hi) (hc : c < nc) (hw : w ≤ 300) (q : ∀ m, m * al c ≤ w → m ≤ hi c → Q (nI m) T) : X0_mostOf (nI c) (nI w) T Q := by
  obtain ⟨h1, h2, h3, h4⟩ := h
  obtain ⟨a1, a2, a3, a4, a5⟩ := h4 c hc
  have hvc : vp_in (nI c) 10 := vp_in_nI (by omega) (by omega)
  have z0 : (0 : Int32).toNatClampNeg = 0 := by decide
  unfold X0_mostOf X0_mostOf_b32
  refine ⟨v0, hvc, fun x ex => ?_⟩
  rw [z0, nI_clamp (by omega), Nat.add_zero, a1] at ex
  subst ex
  have hne : ¬ nI (al c) = 0 := nI_ne0 (by omega) (by omega)
  rw [nI_clamp (by omega), a4, nI_div (by omega) (by omega)]
  refine ⟨fun _ => q 0 (by omega) (by omega), fun _ => ⟨hvc, hne, ?_⟩⟩
  have hd : w / al c * al c ≤ w := Nat.div_mul_le_self w (al c)
  have hd2 : w / al c ≤ w := Nat.div_le_self _ _
  rw [nI_min (by omega) (by omega)]
  have hm : min (hi c) (w / al c) ≤ w / al c := Nat.min_le_right _ _
  exact q _ (Nat.le_trans (Nat.mul_le_mul_right _ hm) hd) (Nat.min_le_left _ _)
theorem s_putPack {c w l : Nat} {y3 : Int32} {S T : ZS} {Q : ZS → Prop} (hk : zKp S T) (hc : c ≤ 10) (hl : l ≤ 300) (hw : 1 ≤ w) (hwl : w ≤ 300) (q : ∀ U, zKp S U → Q U) : X0_putPack (50 + c) 301 (nI w) y3 (nI l) T Q := by
  unfold X0_putPack
  refine zl_dn l (fun i U => zKp S U) (by omega) (fun i U k hi hJ hk2 => ?_) T hk
  show X0_putPack_B4 (50 + c) 301 (nI w) y3 (nI i) U Q k
  unfold X0_putPack_B4 X0_putPack_b35
  refine ⟨fun _ => q U hJ, fun z => ?_⟩
  rw [nI_ltI (by omega) (by omega)] at z
  have hvi : vp_in (nI i) 301 := vp_in_nI (by omega) (by omega)
  obtain ⟨i', rfl⟩ : ∃ i', i = i' + 1 := ⟨i - 1, by omega⟩
  rw [nI_subN (by omega)]
  refine ⟨hvi, vp_in_nI (by omega) (by omega), hvi, fun V eV y ey => ?_⟩
  rw [nI_add_m1] at ey
  subst ey
  subst eV
  exact hk2 i' rfl _ (hJ.u (kpt_50 hc) (by omega))
theorem s_putInPacks {nc l c : Nat} {al hi : Nat → Nat} {S T : ZS} {Q : ZS → Prop} (h : kz S nc l al hi) (hk : zKp S T) (hc : c < nc) (q : ∀ U, zKp S U → Q U) : X0_putInPacks (nI c) (nI l) T Q := by
  have hl := h.2.1
  have h1 := h.1
  have ha := h.2.2.2 c hc
  have z0 : (0 : Int32).toNatClampNeg = 0 := by decide
  have hvc : vp_in (nI c) 10 := vp_in_nI (by omega) (by omega)
  have hvc1 : vp_in (nI c) 11 := vp_in_nI (by omega) (by omega)
  unfold X0_putInPacks
  refine s_mostOf (h.kp hk) hc hl (fun m hm _ => ?_)
  have hm3 : m ≤ 300 := Nat.le_trans (Nat.le_trans (Nat.le_mul_of_pos_right m (by omega)) hm) hl
  refine zl_of (fun y => ∃ r p, y.1 = nI r ∧ y.2.1 = nI p ∧ zKp S y.2.2 ∧ r * al c ≤ l ∧ r ≤ 300 ∧ 1 ≤ p ∧ p ≤ 700 ∧ (0 < r → r + p ≤ 301)) (fun y => y.1.toNatClampNeg) (fun y k hy hk2 => ?_) _ ⟨m, 1, rfl, rfl, hk, hm, hm3, by omega, by omega, fun _ => by omega⟩
  obtain ⟨x4, x5, U⟩ := y
  obtain ⟨r, p, e1, e2, kU, b1, b2, b3, b4, b5⟩ := hy
  dsimp only at e1 e2 kU
  subst e1
  subst e2
  show X0_putInPacks_B12 (nI c) (nI l) (nI r) (nI p) U Q k
  unfold X0_putInPacks_B12 X0_putInPacks_b81
  refine ⟨fun _ => q U kU, fun z => ?_⟩
  have hr : 0 < r := by
    refine Nat.pos_of_ne_zero (fun e => z ?_)
    rw [e]; decide
  have b6 := b5 hr
  refine ⟨fun _ => q U kU, fun _ => ?_⟩
  intro x6 e6
  have em : (if nI r < nI p then nI r else nI p) = nI (min p r) := nI_min (by omega) (by omega)
  rw [em] at e6
  subst e6
  have mn1 : min p r ≤ p := Nat.min_le_left _ _
  have mn2 : min p r ≤ r := Nat.min_le_right _ _
  have mn3 : 1 ≤ min p r := by
    rcases Nat.le_total p r with w | w
    · rw [Nat.min_eq_left w]; omega
    · rw [Nat.min_eq_right w]; omega
  have a14 : U.1 (14 + (0 : Int32).toNatClampNeg) (nI c).toNatClampNeg = nI (al c) := by
    rw [z0, nI_clamp (by omega), Nat.add_zero]
    exact ((h.kp kU).2.2.2 c hc).1
  rw [a14, nI_mul]
  have w1 : min p r * al c ≤ l := Nat.le_trans (Nat.mul_le_mul_right _ mn2) b1
  have w2 : 1 ≤ min p r * al c := Nat.mul_pos mn3 (by omega)
  rw [nI_clamp (by omega)]
  refine ⟨hvc1, v0, hvc, hvc, s_putPack kU (by omega) hl w2 (by omega) (fun V kV x e x' e' => ?_)⟩
  rw [nI_subN mn2] at e
  have e2 : nI p * (2 : Int32) = nI (p * 2) := nI_mul p 2
  rw [e2] at e'
  subst e
  subst e'
  refine hk2 _ ⟨r - min p r, p * 2, rfl, rfl, kV, Nat.le_trans (Nat.mul_le_mul_right _ (Nat.sub_le _ _)) b1, by omega, by omega, by omega, fun h0 => ?_⟩ ?_
  · rcases Nat.le_total p r with w | w
    · rw [Nat.min_eq_left w] at h0 ⊢; omega
    · rw [Nat.min_eq_right w] at h0; omega
  · show (nI (r - min p r)).toNatClampNeg < (nI r).toNatClampNeg
    rw [nI_clamp (by omega), nI_clamp (by omega)]
    omega
theorem s_fewest {nc l c w : Nat} {al hi : Nat → Nat} {T : ZS} {Q : Int32 → ZS → Prop} (h : kz T nc l al hi) (hc : c < nc) (hw : w ≤ 300) (q : ∀ m, m * al c ≤ w → Q (nI m) T) : X0_fewest (nI c) (nI w) T Q := by
  have h1 := h.1
  have ha := h.2.2.2 c hc
  have z0 : (0 : Int32).toNatClampNeg = 0 := by decide
  have hvc : vp_in (nI c) 10 := vp_in_nI (by omega) (by omega)
  have hvc1 : vp_in (nI c) 11 := vp_in_nI (by omega) (by omega)
  have hvw : vp_in (nI w) 301 := vp_in_nI (by omega) (by omega)
  unfold X0_fewest
  refine s_mostOf h hc hw (fun m hm _ => ?_)
  have hm3 : m ≤ 300 := Nat.le_trans (Nat.le_trans (Nat.le_mul_of_pos_right m (by omega)) hm) hw
  refine zl_up2 m (fun i x U => U = T ∧ x = nI (w - i * al c)) (by omega) (fun i x U k hi hJ hk => ?_) _ T ⟨rfl, by rw [Nat.zero_mul, Nat.sub_zero]⟩
  obtain ⟨rfl, rfl⟩ := hJ
  show X0_fewest_B15 (nI c) (nI w) (nI m) _ (nI i) U Q k
  unfold X0_fewest_B15 X0_fewest_b76 X0_fewest_b54
  have him : i * al c ≤ w := Nat.le_trans (Nat.mul_le_mul_right _ hi) hm
  refine ⟨fun _ => q m hm, fun z => ?_⟩
  have hlt := up_onG (n := m) (by omega) hi z
  have e14 : U.1 (14 + (0 : Int32).toNatClampNeg) (nI c).toNatClampNeg = nI (al c) := by
    rw [z0, nI_clamp (by omega), Nat.add_zero]
    exact ha.1
  rw [e14]
  refine ⟨hvc, by rw [nI_1]; exact vp_in_nI (by omega) (by omega), vp_in_nI (by omega) (by omega), hvc1, hvw, fun _ => q i him, fun _ => ⟨v0, hvc, fun x' e' y ey => ?_⟩⟩
  have hi1 : (i + 1) * al c ≤ w := Nat.le_trans (Nat.mul_le_mul_right _ hlt) hm
  rw [Nat.add_mul, Nat.one_mul] at hi1
  rw [nI_1] at ey
  rw [nI_subN (by omega)] at e'
  subst ey
  refine hk hlt _ _ ⟨rfl, ?_⟩
  rw [e', Nat.add_mul, Nat.one_mul, Nat.sub_sub]
theorem s_fill {nc l : Nat} {al hi : Nat → Nat} {S T : ZS} {Q : ZS → Prop} (h : kz S nc l al hi) (h3 : S.1 1 0 = nI nc) (hk : zKp S T) (q : ∀ U, zKp S U → Q U) : X0_fill T Q := by
  have h1 := h.1
  have hl := h.2.1
  have z0 : (0 : Int32).toNatClampNeg = 0 := by decide
  have col : ∀ {U : ZS}, zKp S U → U.1 1 0 = nI nc := fun k => by rw [k.1 1 rfl]; exact h3
  unfold X0_fill
  rw [z0, col hk, nI_clamp (by omega)]
  refine ⟨v0, fun x3 e3 => ⟨vp_in_nI (by omega) (by omega), m_fill (by omega) (fun T1 _ hT1 _ x4 e4 => ?_)⟩⟩
  rw [(h.kp hk).2.2.1] at e3
  subst e3
  have k1 : zKp S T1 := hk.tr (zKp.of (fun n hn => hT1 n (fun e => by rw [e, kpt_50 (by omega)] at hn; cases hn)) (hT1 61 (by omega)))
  rw [col k1] at e4
  subst e4
  refine zl_dm nc (fun i U => zKp S U) (by omega) (fun i U k hi hJ hk2 => ?_) T1 k1
  show X0_fill_B28 (nI l) (nI i - 1) U Q k
  unfold X0_fill_B28
  refine ⟨fun _ => ?_, fun z => ?_⟩
  · unfold X0_fill_b81
    refine zl_up2 nc (fun j x V => zKp S V ∧ ∃ w, w ≤ 300 ∧ x = nI w) (by omega) (fun j x V k3 hj hJ3 hk3 => ?_) (nI l) U ⟨hJ, l, hl, rfl⟩
    obtain ⟨kV, w, hw, rfl⟩ := hJ3
    show X0_fill_B84 (nI w) (nI j) V Q k3
    unfold X0_fill_B84 X0_fill_b128
    rw [col kV]
    refine ⟨fun _ => q V kV, fun z => ?_⟩
    have hjl := up_on (by omega) hj z
    have ha := h.2.2.2 j hjl
    have hvj : vp_in (nI j) 10 := vp_in_nI (by omega) (by omega)
    refine s_fewest (h.kp kV) hjl hw (fun m hm => ⟨hvj, fun W eW => ⟨hvj, v0, hvj, fun x' ex y ey => ?_⟩⟩)
    have kW : zKp S W := by rw [eW]; exact kV.u rfl (by decide)
    rw [nI_clamp (by omega)] at eW
    have e7 : W.1 7 (nI j).toNatClampNeg = nI m := by rw [nI_clamp (by omega), eW, zu_at, if_pos ⟨rfl, rfl⟩]
    have e14 : W.1 (14 + (0 : Int32).toNatClampNeg) (nI j).toNatClampNeg = nI (al j) := by
      rw [z0, nI_clamp (by omega), Nat.add_zero]
      exact ((h.kp kW).2.2.2 j hjl).1
    rw [e7, e14, nI_mul, nI_subN hm] at ex
    rw [nI_1] at ey
    subst ex
    subst ey
    exact hk3 hjl _ _ ⟨kW, _, by omega, rfl⟩
  · have i0 : i ≠ 0 := fun e => by
      subst e
      exact z (by decide)
    obtain ⟨j, rfl⟩ : ∃ j, i = j + 1 := ⟨i - 1, by omega⟩
    rw [nI_pred, nI_1, nI_1]
    have hvj : vp_in (nI j) 10 := vp_in_nI (by omega) (by omega)
    have nx : ∀ V, zKp S V → X0_fill_b75 (nI l) (nI j) V Q k := by
      intro V kV
      unfold X0_fill_b75
      intro w ew
      rw [← Int32.sub_eq_add_neg] at ew
      subst ew
      exact hk2 j rfl V kV
    refine ⟨vp_in_nI (by omega) (by omega), vp_in_nI (by omega) (by omega), ⟨by decide, by decide, nI_pos (by omega), ?_, ?_⟩, fun V eV => ⟨hvj, fun _ => ?_, fun _ => ?_⟩⟩
    · show 0 + (nI (l + 1)).toNatClampNeg ≤ 301
      rw [nI_clamp (by omega)]; omega
    · show 0 + (nI (l + 1)).toNatClampNeg ≤ 301
      rw [nI_clamp (by omega)]; omega
    · refine nx V ?_
      rw [eV, nI_clamp (by omega)]
      exact hJ.ur (kpt_50 (by omega)) (by omega)
    · have kV : zKp S V := by
        rw [eV, nI_clamp (by omega : j < 2 ^ 31)]
        exact hJ.ur (kpt_50 (by omega)) (by omega)
      exact s_putInPacks h kV (by omega) nx
theorem s_solve6 {nc nr : Nat} {S : ZS} {Q : Int32 → ZS → Prop} (hC : zC S nc nr) (q : ∀ v U x, zKp S U → fR (aC S) nr nc x → (x = -1 → ∃ M s, zP nr (cJ (tr (aC S)) nr nc) M ∧ sG (aC S) nr nc M s) → Q v U) : X6_solve S Q := by
  unfold X6_solve
  refine i4_findSigns hC (fun x T hp hx hf => ?_)
  have hf2 : x = -1 → ∃ M s, zP nr (cJ (tr (aC S)) nr nc) M ∧ sG (aC S) nr nc M s := fun e => by
    obtain ⟨L, s, h⟩ := hf e
    exact ⟨L, s, h.2.2.1, h.2.2.2⟩
  refine ⟨fun _ => ?_, fun _ => ?_⟩
  · refine s_solveFlow hC hp.kp (fun v U _ kU V eV => ?_)
    subst eV
    unfold X6_solve_b62 X6_solve_b75
    exact ⟨fun _ => q _ _ x (kU.u rfl (by decide)) hx hf2, fun _ => q _ _ x (kU.u rfl (by decide)) hx hf2⟩
  · refine x4_isKnapsack (hC.per hp) (fun v hv ev => ⟨fun _ U eU => ?_, fun g => ?_⟩)
    · subst eU
      exact q _ _ x (hp.kp.u rfl (by decide)) hx hf2
    · have hkn := (kn_per hp).mp (ev.mp (bit_1 hv g))
      refine s_fill (hkn.z hC) hC.2.2.1 hp.kp (fun U kU V eV => ?_)
      subst eV
      unfold X6_solve_b62 X6_solve_b75
      exact ⟨fun _ => q _ _ x (kU.u rfl (by decide)) hx hf2, fun _ => q _ _ x (kU.u rfl (by decide)) hx hf2⟩
