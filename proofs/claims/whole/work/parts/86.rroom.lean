/-! that the reference's solve() goes through: knapsacks; and the whole of it -/
theorem l_bm {z : Int} (h1 : -9223372036854775808 ≤ z) (h2 : z ≤ 9223372036854775807) : z.bmod (2 ^ 64) = z := by
  apply Int.bmod_eq_of_le <;> omega
theorem l_add {x y : Int64} (h1 : -9223372036854775808 ≤ x.toInt + y.toInt) (h2 : x.toInt + y.toInt ≤ 9223372036854775807) : (x + y).toInt = x.toInt + y.toInt := by
  rw [Int64.toInt_add]; exact l_bm h1 h2
theorem l_mul {x y : Int64} (h1 : -9223372036854775808 ≤ x.toInt * y.toInt) (h2 : x.toInt * y.toInt ≤ 9223372036854775807) : (x * y).toInt = x.toInt * y.toInt := by
  rw [Int64.toInt_mul]; exact l_bm h1 h2
/-- the value that n of a column leave -/
def vv (T : ZS) (al : Nat → Nat) (c w n : Nat) : Int64 := Int32.toInt64 (nI n) * Int32.toInt64 (T.1 64 c) + T.2 81 (301 * (c + 1) + (w - n * al c))
def dOK (T : ZS) (nc l : Nat) (al hi : Nat → Nat) (c0 : Nat) : Prop := ∀ c, c0 ≤ c → c < nc → ∀ w, w ≤ l → ∃ n, n * al c ≤ w ∧ n ≤ hi c ∧ T.2 81 (301 * c + w) = vv T al c w n
def dBd (T : ZS) (nc l : Nat) (c0 : Nat) : Prop := ∀ c, c0 ≤ c → c ≤ nc → ∀ w, w ≤ l → -(300000 * ((nc - c : Nat) : Int)) ≤ (T.2 81 (301 * c + w)).toInt ∧ (T.2 81 (301 * c + w)).toInt ≤ 300000 * ((nc - c : Nat) : Int)
theorem mul_bd {n : Nat} {y : Int} (hn : n ≤ 300) (h1 : -1000 ≤ y) (h2 : y ≤ 1000) : -300000 ≤ (n : Int) * y ∧ (n : Int) * y ≤ 300000 := by
  have a1 : (n : Int) * y ≤ (n : Int) * 1000 := Int.mul_le_mul_of_nonneg_left h2 (by omega)
  have a2 : (n : Int) * (-1000) ≤ (n : Int) * y := Int.mul_le_mul_of_nonneg_left h1 (by omega)
  omega
theorem vv_bd {T : ZS} {nc l c w n : Nat} {al : Nat → Nat} (hl : l ≤ 300) (hnc : nc ≤ 10) (hc : c < nc) (hw : w ≤ l) (hn : n * al c ≤ w) (ha : 1 ≤ al c) (hz : zlim 1000 (T.1 64 c)) (hB : dBd T nc l (c + 1)) :
    -(300000 * ((nc - c : Nat) : Int)) ≤ (vv T al c w n).toInt ∧ (vv T al c w n).toInt ≤ 300000 * ((nc - c : Nat) : Int) := by
  have n3 : n ≤ 300 := by
    have := Nat.le_mul_of_pos_right n (show 0 < al c by omega)
    omega
  have hb := hB (c + 1) (by omega) (by omega) (w - n * al c) (by omega)
  have hm := mul_bd n3 hz.1 hz.2
  have e1 : (Int32.toInt64 (nI n)).toInt = n := by rw [l_i, nI_toInt (by omega)]
  have e2 : (Int32.toInt64 (nI n) * Int32.toInt64 (T.1 64 c)).toInt = (n : Int) * (T.1 64 c).toInt := by
    rw [l_mul (by rw [e1, l_i]; omega) (by rw [e1, l_i]; omega), e1, l_i]
  unfold vv
  have e3 : ((nc - c : Nat) : Int) = ((nc - (c + 1) : Nat) : Int) + 1 := by omega
  rw [l_add (by rw [e2]; omega) (by rw [e2]; omega), e2, e3]
  omega
theorem ix_1 {c w n a : Nat} (h : n * a ≤ w) : (((301 : Int32) * (nI c + (1 : Int32))) + nI w) - (nI n * nI a) = nI (301 * (c + 1) + (w - n * a)) := by
  have e : (301 : Int32) = nI 301 := rfl
  rw [nI_1, e, nI_mul, nI_mul, nI_add, nI_subN (by omega)]
  congr 1
  omega
theorem ix_0 {c w : Nat} : ((301 : Int32) * nI c) + nI w = nI (301 * c + w) := by
  have e : (301 : Int32) = nI 301 := rfl
  rw [e, nI_mul, nI_add]
theorem s_byRoom {nc nr l : Nat} {al hi : Nat → Nat} {S T : ZS} {Q : ZS → Prop} (hC : zC S nc nr) (hnr : nr = 1) (hz : kz S nc l al hi) (hk : zKr S T) (q : ∀ U, zKr S U → Q U) : X7_byRoom T Q := by
  have h1 := hC.1
  have hl := hz.2.1
  have z0 : (0 : Int32).toNatClampNeg = 0 := by decide
  have far : (1000000000000 : Int64).toInt = 1000000000000 := by decide
  have col : ∀ {U : ZS}, zKr S U → U.1 61 1 = nI nc := fun k => (hC.kr k).2.2.2.2.1
  have rgt : ∀ {U : ZS}, zKr S U → U.1 66 0 = nI l := fun k => by
    rw [((hC.kr k).2.2.2.2.2.2.2.1 0 (by omega)).2.1]
    exact (hz.kp k.kp).2.2.1
  have cof : ∀ {U : ZS} {c : Nat}, zKr S U → c < nc → U.1 67 (10 * 0 + c) = nI (al c) := fun k hc => by
    rw [(hC.kr k).2.2.2.2.2.2.2.2.1 0 _ (by omega) hc]
    exact ((hz.kp k.kp).2.2.2 _ hc).1
  have hig : ∀ {U : ZS} {c : Nat}, zKr S U → c < nc → U.1 63 c = nI (hi c) := fun k hc => by
    rw [((hC.kr k).2.2.2.2.2.2.1 _ hc).2.1]
    exact ((hz.kp k.kp).2.2.2 _ hc).2.2.2.1
  have cst : ∀ {U : ZS} {c : Nat}, zKr S U → c < nc → zlim 1000 (U.1 64 c) := fun k hc => by
    have h := (hC.kr k).2.2.2.2.2.2.1 _ hc
    rw [h.2.2.1]
    exact h.2.2.2.2
  have alp : ∀ {c : Nat}, c < nc → 1 ≤ al c ∧ al c ≤ 100 ∧ hi c ≤ 1000 := fun hc => ⟨(hz.2.2.2 _ hc).2.1, (hz.2.2.2 _ hc).2.2.1, (hz.2.2.2 _ hc).2.2.2.2⟩
  unfold X7_byRoom
  refine zl_up 301 (fun i U => zKr S U ∧ ∀ w, w < i → U.2 81 (301 * nc + w) = 0) (by omega) (fun i U k hii hJ hk2 => ?_) T ⟨hk, fun w hw => by omega⟩
  obtain ⟨kU, wU⟩ := hJ
  show X7_byRoom_B2 (nI i) U Q k
  unfold X7_byRoom_B2
  have e300 : (300 : Int32) < nI i ↔ 300 < i := by
    show nI 300 < nI i ↔ 300 < i
    exact nI_ltI (by omega) (by omega)
  rw [e300, col kU, ix_0]
  refine ⟨fun z => ?_, fun z => ⟨vp_in_nI (by omega) (by omega), fun V eV w ew => ?_⟩⟩
  · unfold X7_byRoom_b31
    rw [col kU]
    intro x1 e1
    subst e1
    have hB0 : dBd U nc l nc := fun c ha hb w hw => by
      have : c = nc := by omega
      rw [this, wU w (by omega)]
      have : (0 : Int64).toInt = 0 := by decide
      rw [this]
      omega
    refine zl_dm nc (fun i V => zKr S V ∧ dOK V nc l al hi i ∧ dBd V nc l i) (by omega) (fun j V k3 hj hJ3 hk3 => ?_) U ⟨kU, fun c ha hb => by omega, hB0⟩
    obtain ⟨kV, dV, bV⟩ := hJ3
    show X7_byRoom_B38 (nI j - 1) V Q k3
    unfold X7_byRoom_B38
    refine ⟨fun z2 => ?_, fun z2 => ?_⟩
    · have j0 : j = 0 := by
        refine Classical.byContradiction (fun w => ?_)
        obtain ⟨j', rfl⟩ : ∃ j', j = j' + 1 := ⟨j - 1, by omega⟩
        rw [nI_pred] at z2
        exact absurd z2 (nI_pos (by omega))
      subst j0
      unfold X7_byRoom_b168
      rw [z0, rgt kV]
      refine ⟨v0, fun x ex => ?_⟩
      subst ex
      refine zl_up2 nc (fun c x W => zKr S W ∧ dOK W nc l al hi 0 ∧ ∃ w, w ≤ l ∧ x = nI w) (by omega) (fun c x W k4 hc hJ4 hk4 => ?_) (nI l) V ⟨kV, dV, l, Nat.le_refl _, rfl⟩
      obtain ⟨kW, dW, w, hw, rfl⟩ := hJ4
      show X7_byRoom_B177 (nI w) (nI c) W Q k4
      unfold X7_byRoom_B177 X7_byRoom_b267
      rw [col kW]
      refine ⟨fun _ => q W kW, fun z3 => ?_⟩
      have hcl := up_on (by omega) hc z3
      have hvc : vp_in (nI c) 10 := vp_in_nI (by omega) (by omega)
      obtain ⟨n0, m1, m2, m3⟩ := dW c (by omega) hcl w hw
      have ac := alp hcl
      have n3 : n0 ≤ 300 := by
        have := Nat.le_mul_of_pos_right n0 (show 0 < al c by omega)
        omega
      refine zl_up n0 (fun n Y => Y = W) (by omega) (fun n Y k5 hn hJ5 hk5 => ?_) W rfl
      subst hJ5
      show X7_byRoom_B187 (nI w) (nI c) (nI n) Y Q k4 k5
      unfold X7_byRoom_B187
      refine ⟨hvc, x7_coef (r := 0) (by omega) (by omega) ?_⟩
      have hna : n * al c ≤ w := Nat.le_trans (Nat.mul_le_mul_right _ hn) m1
      rw [cof kW hcl, ix_1 hna, ix_0, nI_clamp (by omega), nI_clamp (by omega), nI_clamp (by omega)]
      refine ⟨vp_in_nI (by omega) (by omega), vp_in_nI (by omega) (by omega), fun _ => ?_, fun g y ey => ?_⟩
      · unfold X7_byRoom_b243
        refine ⟨hvc, fun Z eZ => ?_⟩
        have kZ : zKr S Z := by rw [eZ]; exact kW.u rfl (by decide)
        refine x7_coef (r := 0) (by omega) (by omega) ?_
        rw [cof kZ hcl, nI_mul, nI_subN hna]
        intro x' ex y ey
        rw [nI_1] at ey
        subst ex
        subst ey
        have z2 : Z.2 = Y.2 := by rw [eZ]; rfl
        have z64 : Z.1 64 = Y.1 64 := by rw [eZ, zu_ne (by decide)]
        refine hk4 hcl _ _ ⟨kZ, fun c2 a b w2 hw2 => ?_, _, by omega, rfl⟩
        have h := dW c2 a b w2 hw2
        unfold vv
        rw [z2, z64]
        exact h
      · rw [nI_1] at ey
        subst ey
        refine hk5 ?_ _ rfl
        refine Nat.lt_of_le_of_ne hn (fun e => g ?_)
        subst e
        rw [lg_eq, m3]
        rfl
    · have j0 : j ≠ 0 := fun e => by
        subst e
        exact z2 (by decide)
      obtain ⟨c, rfl⟩ : ∃ c, j = c + 1 := ⟨j - 1, by omega⟩
      rw [nI_pred]
      have hcl : c < nc := by omega
      have ac := alp hcl
      have hvc : vp_in (nI c) 10 := vp_in_nI (by omega) (by omega)
      -- what stays when a number of this column's is written
      have stay : ∀ (W : ZS) (w : Nat) (x : Int64), w ≤ l → dOK W nc l al hi (c + 1) → dBd W nc l (c + 1) → dOK (zw W 81 (301 * c + w) x) nc l al hi (c + 1) ∧ dBd (zw W 81 (301 * c + w) x) nc l (c + 1) := by
        intro W w x hw dW bW
        have same : ∀ c2 w2, c + 1 ≤ c2 → (zw W 81 (301 * c + w) x).2 81 (301 * c2 + w2) = W.2 81 (301 * c2 + w2) := fun c2 w2 a => by rw [zw_at, if_neg (by omega)]
        refine ⟨fun c2 a b w2 hw2 => ?_, fun c2 a b w2 hw2 => ?_⟩
        · have h := dW c2 a b w2 hw2
          obtain ⟨n, n1, n2, n3⟩ := h
          refine ⟨n, n1, n2, ?_⟩
          unfold vv at n3 ⊢
          rw [same c2 w2 a, same (c2 + 1) _ (by omega)]
          exact n3
        · rw [same c2 w2 a]
          exact bW c2 a b w2 hw2
      refine zl_up (l + 1) (fun w W => zKr S W ∧ dOK W nc l al hi (c + 1) ∧ dBd W nc l (c + 1) ∧ ∀ w2, w2 < w → ∃ n, n * al c ≤ w2 ∧ n ≤ hi c ∧ W.2 81 (301 * c + w2) = vv W al c w2 n) (by omega) (fun w W k4 hw hJ4 hk4 => ?_) V ⟨kV, dV, bV, fun w2 h => by omega⟩
      obtain ⟨kW, dW, bW, rW⟩ := hJ4
      show X7_byRoom_B44 (nI c) (nI w) W Q k3 k4
      unfold X7_byRoom_B44
      rw [z0, rgt kW, nI_ltI (by omega) (by omega)]
      refine ⟨v0, fun z3 => ?_, fun z3 => ?_⟩
      · unfold X7_byRoom_b162
        intro y ey
        rw [← Int32.sub_eq_add_neg] at ey
        subst ey
        refine hk3 c rfl W ⟨kW, fun c2 a b w2 hw2 => ?_, fun c2 a b w2 hw2 => ?_⟩
        · by_cases e : c2 = c
          · rw [e]; exact rW w2 (by omega)
          · exact dW c2 (by omega) b w2 hw2
        · by_cases e : c2 = c
          · subst e
            obtain ⟨n, n1, n2, n3⟩ := rW w2 (by omega)
            rw [n3]
            exact vv_bd hl h1 hcl hw2 n1 ac.1 (cst kW hcl) bW
          · exact bW c2 (by omega) b w2 hw2
      · have hwl : w ≤ l := by omega
        refine zl_up2 (hi c + 1) (fun n m Y => Y = W ∧ (n = 0 → m = 1000000000000) ∧ (0 < n → ∃ n0, n0 * al c ≤ w ∧ n0 ≤ hi c ∧ m = vv W al c w n0)) (by omega) (fun n m Y k5 hn hJ5 hk5 => ?_) 1000000000000 W ⟨rfl, fun _ => rfl, fun h => absurd h (by omega)⟩
        obtain ⟨rfl, m0, m1⟩ := hJ5
        show X7_byRoom_B61 (nI c) (nI w) m (nI n) Y Q k3 k4 k5
        unfold X7_byRoom_B61
        have put : 0 < n → X7_byRoom_b143 (nI c) (nI w) m Y Q k3 k4 := by
          intro hn0
          obtain ⟨n0, g1, g2, g3⟩ := m1 hn0
          unfold X7_byRoom_b143
          rw [ix_0, nI_clamp (by omega)]
          refine ⟨vp_in_nI (by omega) (by omega), fun Z eZ y ey => ?_⟩
          rw [nI_1] at ey
          subst ey
          subst eZ
          obtain ⟨st1, st2⟩ := stay Y w m hwl dW bW
          have vs : ∀ w2 n2, vv (zw Y 81 (301 * c + w) m) al c w2 n2 = vv Y al c w2 n2 := fun w2 n2 => by
            unfold vv
            rw [zw_at, if_neg (by omega)]
            rfl
          refine hk4 (by omega) _ ⟨kW.w, st1, st2, fun w2 hw2 => ?_⟩
          by_cases e : w2 = w
          · subst e
            refine ⟨n0, g1, g2, ?_⟩
            rw [zw_at, if_pos ⟨rfl, rfl⟩, vs, g3]
          · obtain ⟨n2, a1, a2, a3⟩ := rW w2 (by omega)
            refine ⟨n2, a1, a2, ?_⟩
            rw [zw_at, if_neg (by omega), vs, a3]
        rw [nI_clamp (by omega), hig kW hcl, nI_ltI (by omega) (by omega)]
        refine ⟨hvc, fun z4 => put (by omega), fun z4 => x7_coef (r := 0) (by omega) (by omega) ?_⟩
        have n1k : n ≤ 1000 := by omega
        have nab : n * al c ≤ 100000 := by
          have := Nat.mul_le_mul n1k ac.2.1
          omega
        rw [cof kW hcl, nI_mul, nI_ltI (by omega) (by omega)]
        refine ⟨fun z5 => put ?_, fun z5 => ⟨hvc, x7_coef (r := 0) (by omega) (by omega) ?_⟩⟩
        · refine Nat.pos_of_ne_zero (fun e => ?_)
          subst e
          rw [Nat.zero_mul] at z5
          omega
        · have hna : n * al c ≤ w := by omega
          rw [cof kW hcl, ix_1 hna, nI_clamp (by omega)]
          refine ⟨vp_in_nI (by omega) (by omega), fun v ev => ?_⟩
          have ev2 : v = vv Y al c w n := ev
          have nx : ∀ t : Int64, (∃ n0, n0 * al c ≤ w ∧ n0 ≤ hi c ∧ t = vv Y al c w n0) → X7_byRoom_b136 (nI c) (nI w) (nI n) t Y Q k3 k4 k5 := by
            intro t ht
            unfold X7_byRoom_b136
            intro y ey
            rw [nI_1] at ey
            subst ey
            exact hk5 (by omega) _ _ ⟨rfl, fun e => absurd e (by omega), fun _ => ht⟩
          refine ⟨fun g => ?_, fun _ => nx v ⟨n, hna, by omega, ev2⟩⟩
          by_cases e : n = 0
          · have hb := vv_bd (n := n) hl h1 hcl hwl hna ac.1 (cst kW hcl) bW
            rw [← ev2] at hb
            rw [m0 e] at g
            have : lg_cmp v 1000000000000 < 0 := lg_lt.mpr (by rw [far]; omega)
            exact absurd g (by rw [i_le, (by decide : (0 : Int32).toInt = 0)]; rw [i_lt, (by decide : (0 : Int32).toInt = 0)] at this; omega)
          · exact nx m (m1 (by omega))
  · rw [nI_1] at ew
    rw [nI_clamp (by omega)] at eV
    subst ew
    subst eV
    refine hk2 (by omega) _ ⟨kU.w, fun w hw => ?_⟩
    rw [zw_at]
    by_cases e : w = i
    · rw [if_pos ⟨rfl, by rw [e]⟩]
    · rw [if_neg (fun z => e (by omega))]; exact wU w (by omega)
theorem s_solve7 {nc nr : Nat} {x : Int32} {S T : ZS} {Q : Int32 → ZS → Prop} (hC : zC S nc nr) (hk : zKr S T) (hx : fR (aC S) nr nc x) (hf : x = -1 → ∃ M s, zP nr (cJ (tr (aC S)) nr nc) M ∧ sG (aC S) nr nc M s) (q : ∀ v U, zKr S U → Q v U) : X7_solve T Q := by
  unfold X7_solve
  intro T1 e1 T2 e2
  subst e1
  subst e2
  have k2 : zKr S (zu (zu T 61 0 0) 61 9 (-1)) := (hk.u61 (by decide) (by decide)).u61 (by decide) (by decide)
  unfold X7_solve_b24 X7_solve_b61
  refine i7k_flowReason hC k2.kp hx ⟨fun e => ⟨Or.inr rfl, fun U eU => ?_⟩, fun e => ⟨Or.inl rfl, fun U eU => ?_⟩⟩
  · have kU : zKr S U := by rw [eU]; exact k2.u61 (by decide) (by decide)
    have e10 : U.1 61 10 = 1 := by rw [eU, zu_at, if_pos ⟨rfl, rfl⟩]
    rw [e10]
    obtain ⟨M, s, hP, hG⟩ := hf e
    refine ⟨fun g => absurd g (by decide), fun _ => s_byFlows hC kU hP hG (fun v V kV W eW => ?_)⟩
    subst eW
    exact q _ _ (kV.u61 (by decide) (by decide))
  · have kU : zKr S U := by rw [eU]; exact k2.u61 (by decide) (by decide)
    have e10 : U.1 61 10 = 0 := by rw [eU, zu_at, if_pos ⟨rfl, rfl⟩]
    rw [e10]
    refine ⟨fun _ => x7_isKnapsack (hC.kr kU) (fun v hv ev => ⟨fun _ => q _ U kU, fun g => ?_⟩), fun g => absurd rfl g⟩
    have hkn := ev.mp (bit_1 hv g)
    refine s_byRoom (hC.kr kU) hkn.1.1 (hkn.z (hC.kr kU)) (zKr.rf U) (fun V kV W eW => ?_)
    subst eW
    exact q _ _ ((kU.tr kV).u61 (by decide) (by decide))
