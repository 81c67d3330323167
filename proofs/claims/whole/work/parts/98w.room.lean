/-! the reference's knapsack -/
def tR (T : ZS) (c w : Nat) : Int := (T.2 81 (301 * c + w)).toInt
def zK6 (S T U : ZS) : Prop := zKr S U ∧ U.1 61 = T.1 61
theorem zK6.w {S T U : ZS} {n j : Nat} {v : Int64} (h : zK6 S T U) : zK6 S T (zw U n j v) := ⟨h.1.w, h.2⟩
theorem zK6.u {S T U : ZS} {n j : Nat} {v : Int32} (h : zK6 S T U) (hn : kpr n = false) (h61 : n ≠ 61) : zK6 S T (zu U n j v) := ⟨h.1.u hn h61, by rw [zu_ne (Ne.symm h61)]; exact h.2⟩
set_option maxHeartbeats 1000000 in
theorem x7_byRoom {nc nr l : Nat} {al hi : Nat → Nat} {co : Nat → Int} {S T : ZS} {Q : ZS → Prop} (hC : zC S nc nr) (hnr : nr = 1) (hz : kz S nc l al hi) (hco : ∀ c, c < nc → (S.1 10 c).toInt = co c ∧ -1000 ≤ co c ∧ co c ≤ 1000) (hk : zKr S T) (q : ∀ U b, zK6 S T U → ksol nc l al hi co b → (∀ c, c < nc → U.1 68 c = nI (b c)) → Q U) : X7_byRoom T Q := by
  have h1 := hC.1
  have hl := hz.2.1
  have z0 : (0 : Int32).toNatClampNeg = 0 := by decide
  have far : (1000000000000 : Int64).toInt = 1000000000000 := by decide
  have l0 : (0 : Int64).toInt = 0 := by decide
  have col : ∀ {U : ZS}, zK6 S T U → U.1 61 1 = nI nc := fun k => (hC.kr k.1).2.2.2.2.1
  have rgt : ∀ {U : ZS}, zK6 S T U → U.1 66 0 = nI l := fun k => by
    rw [((hC.kr k.1).2.2.2.2.2.2.2.1 0 (by omega)).2.1]
    exact (hz.kp k.1.kp).2.2.1
  have cof : ∀ {U : ZS} {c : Nat}, zK6 S T U → c < nc → U.1 67 (10 * 0 + c) = nI (al c) := fun k hc => by
    rw [(hC.kr k.1).2.2.2.2.2.2.2.2.1 0 _ (by omega) hc]
    exact ((hz.kp k.1.kp).2.2.2 _ hc).1
  have hig : ∀ {U : ZS} {c : Nat}, zK6 S T U → c < nc → U.1 63 c = nI (hi c) := fun k hc => by
    rw [((hC.kr k.1).2.2.2.2.2.2.1 _ hc).2.1]
    exact ((hz.kp k.1.kp).2.2.2 _ hc).2.2.2.1
  have cs : ∀ {U : ZS} {c : Nat}, zK6 S T U → c < nc → (U.1 64 c).toInt = co c := fun k hc => by
    have h := (hC.kr k.1).2.2.2.2.2.2.1 _ hc
    rw [h.2.2.1, k.1.kp.1 10 rfl]
    exact (hco _ hc).1
  have alp : ∀ {c : Nat}, c < nc → 1 ≤ al c ∧ al c ≤ 100 ∧ hi c ≤ 1000 := fun hc => ⟨(hz.2.2.2 _ hc).2.1, (hz.2.2.2 _ hc).2.2.1, (hz.2.2.2 _ hc).2.2.2.2⟩
  have bnd : ∀ {U : ZS} {i : Nat}, tbl (tR U) nc l al hi co i → ∀ c, i ≤ c → c ≤ nc → ∀ w, w ≤ l → -3000000 ≤ tR U c w ∧ tR U c w ≤ 3000000 := fun {U i} ht c a b w hw => by
    have := ht.bd hl (fun c hc => (alp hc).1) (fun c hc => (hco c hc).2) (nc - c) (by omega) w hw
    rw [show nc - (nc - c) = c by omega] at this
    omega
  -- a number's value
  have val : ∀ {U : ZS} {c w n : Nat}, zK6 S T U → tbl (tR U) nc l al hi co (c + 1) → c < nc → w ≤ l → n * al c ≤ w → (vv U al c w n).toInt = (n : Int) * co c + tR U (c + 1) (w - n * al c) ∧ -4000000 ≤ (n : Int) * co c + tR U (c + 1) (w - n * al c) ∧ (n : Int) * co c + tR U (c + 1) (w - n * al c) ≤ 4000000 := fun {U c w n} kU tU hc hw hn => by
    have ac := alp hc
    have n3 : n ≤ 300 := by
      have := Nat.le_mul_of_pos_right n (show 0 < al c by omega)
      omega
    have hb := bnd tU (c + 1) (by omega) (by omega) (w - n * al c) (by omega)
    have cc := hco c hc
    have hm := mul_bd n3 cc.2.1 cc.2.2
    have e1 : (Int32.toInt64 (nI n)).toInt = n := by rw [l_i, nI_toInt (by omega)]
    have e2 : (Int32.toInt64 (nI n) * Int32.toInt64 (U.1 64 c)).toInt = (n : Int) * co c := by
      rw [l_mul (by rw [e1, l_i, cs kU hc]; omega) (by rw [e1, l_i, cs kU hc]; omega), e1, l_i, cs kU hc]
    refine ⟨?_, by omega, by omega⟩
    unfold vv
    rw [l_add (by rw [e2]; show _ ≤ _ + tR U (c + 1) (w - n * al c); omega) (by rw [e2]; show _ + tR U (c + 1) (w - n * al c) ≤ _; omega), e2]
    rfl
  unfold X7_byRoom
  refine zl_up 301 (fun i U => zK6 S T U ∧ ∀ w, w < i → U.2 81 (301 * nc + w) = 0) (by omega) (fun i U k hii hJ hk2 => ?_) T ⟨⟨hk, rfl⟩, fun w hw => by omega⟩
  obtain ⟨kU, wU⟩ := hJ
  show X7_byRoom_B2 (nI i) U Q k
  unfold X7_byRoom_B2
  have e300 : (300 : Int32) < nI i ↔ 300 < i := by
    show nI 300 < nI i ↔ 300 < i
    exact nI_ltI (by omega) (by omega)
  rw [e300, col kU, ix_0]
  refine ⟨fun z => ?_, fun z => ⟨vp_in_nI (by omega) (by omega), fun V eV w ew => ?_⟩⟩
  · unfold X7_byRoom_b31
    rw [col kU]
    intro x1 e1
    subst e1
    have t0 : tbl (tR U) nc l al hi co nc := ⟨fun w hw => by unfold tR; rw [wU w (by omega)]; exact l0, fun c a b => by omega⟩
    refine zl_dm nc (fun i V => zK6 S T V ∧ tbl (tR V) nc l al hi co i) (by omega) (fun j V k3 hj hJ3 hk3 => ?_) U ⟨kU, t0⟩
    obtain ⟨kV, tV⟩ := hJ3
    show X7_byRoom_B38 (nI j - 1) V Q k3
    unfold X7_byRoom_B38
    refine ⟨fun z2 => ?_, fun z2 => ?_⟩
    · have j0 : j = 0 := by
        refine Classical.byContradiction (fun w => ?_)
        obtain ⟨j', rfl⟩ : ∃ j', j = j' + 1 := ⟨j - 1, by omega⟩
        rw [nI_pred] at z2
        exact absurd z2 (nI_pos (by omega))
      subst j0
      unfold X7_byRoom_b168
      rw [z0, rgt kV]
      refine ⟨v0, fun x ex => ?_⟩
      subst ex
      refine zl_up2 nc (fun j x W => zK6 S T W ∧ W.2 = V.2 ∧ ∃ (ro b : Nat → Nat), ro 0 = l ∧ x = nI (ro j) ∧ ro j ≤ l ∧ (∀ c, c < j → ro c ≤ l ∧ fstN (tR V (c + 1)) (al c) (hi c) (co c) (ro c) (tR V c (ro c)) (b c) ∧ ro (c + 1) = ro c - b c * al c) ∧ ∀ c, c < j → W.1 68 c = nI (b c)) (by omega) (fun c x W k4 hc hJ4 hk4 => ?_) (nI l) V ⟨kV, rfl, fun _ => l, fun _ => 0, rfl, rfl, Nat.le_refl _, fun c hc => by omega, fun c hc => by omega⟩
      obtain ⟨kW, w2, ro, b, r0, rx, rl, rc, bW⟩ := hJ4
      subst rx
      have tWe : tR W = tR V := funext fun c => funext fun w => by unfold tR; rw [w2]
      show X7_byRoom_B177 (nI (ro c)) (nI c) W Q k4
      unfold X7_byRoom_B177 X7_byRoom_b267
      rw [col kW]
      refine ⟨fun z => ?_, fun z3 => ?_⟩
      · have := up_end (by omega) hc z
        subst this
        exact q W b kW ⟨tR V, ro, tV, r0, rc⟩ bW
      have hcl := up_on (by omega) hc z3
      have hvc : vp_in (nI c) 10 := vp_in_nI (by omega) (by omega)
      have tW1 : tbl (tR W) nc l al hi co (c + 1) := by rw [tWe]; exact ⟨tV.1, fun c' a b' => tV.2 c' (by omega) b'⟩
      generalize hro : ro c = w at *
      obtain ⟨⟨n0, m2, m1, m3⟩, _⟩ := tV.2 c (by omega) hcl w rl
      have ac := alp hcl
      have n3 : n0 ≤ 300 := by
        have := Nat.le_mul_of_pos_right n0 (show 0 < al c by omega)
        omega
      refine zl_up n0 (fun n Y => Y = W ∧ ∀ j : Nat, j < n → tR V c w ≠ (j : Int) * co c + tR V (c + 1) (w - j * al c)) (by omega) (fun n Y k5 hn hJ5 hk5 => ?_) W ⟨rfl, fun j hj => by omega⟩
      obtain ⟨rfl, hno⟩ := hJ5
      show X7_byRoom_B187 (nI w) (nI c) (nI n) Y Q k4 k5
      unfold X7_byRoom_B187
      refine ⟨hvc, x7_coef (r := 0) (by omega) (by omega) ?_⟩
      have hna : n * al c ≤ w := Nat.le_trans (Nat.mul_le_mul_right _ hn) m1
      have hv := (val kW tW1 hcl rl hna).1
      rw [tWe] at hv
      rw [cof kW hcl, ix_1 hna, ix_0, nI_clamp (by omega), nI_clamp (by omega), nI_clamp (by omega)]
      have tcw : (Y.2 81 (301 * c + w)).toInt = tR V c w := by rw [w2]; rfl
      refine ⟨vp_in_nI (by omega) (by omega), vp_in_nI (by omega) (by omega), fun g => ?_, fun g y ey => ?_⟩
      · rw [lg_eq] at g
        have eq : tR V c w = (n : Int) * co c + tR V (c + 1) (w - n * al c) := by
          have g2 : vv Y al c w n = Y.2 81 (301 * c + w) := g
          rw [← tcw, ← g2]; exact hv
        unfold X7_byRoom_b243
        refine ⟨hvc, fun Z eZ => ?_⟩
        have kZ : zK6 S T Z := by rw [eZ]; exact kW.u rfl (by decide)
        refine x7_coef (r := 0) (by omega) (by omega) ?_
        rw [cof kZ hcl, nI_mul, nI_subN hna]
        intro x' ex y ey
        rw [nI_1] at ey
        subst ex
        subst ey
        have z2 : Z.2 = Y.2 := by rw [eZ]; rfl
        rw [nI_clamp (by omega)] at eZ
        have rn1 : nup ro (c + 1) (w - n * al c) (c + 1) = w - n * al c := nup_e _ _ _
        refine hk4 hcl _ _ ⟨kZ, z2.trans w2, nup ro (c + 1) (w - n * al c), nup b c n, by rw [nup_n _ _ (by omega)]; exact r0, by rw [rn1], by rw [rn1]; omega, fun c' hc' => ?_, fun c' hc' => ?_⟩
        · by_cases e : c' = c
          · subst e
            rw [rn1, nup_n _ _ (by omega), nup_e, hro]
            exact ⟨rl, ⟨by omega, hna, eq, hno⟩, rfl⟩
          · have := rc c' (by omega)
            rw [nup_n ro _ (by omega), nup_n b _ e, nup_n ro _ (by omega)]
            exact this
        · rw [eZ, zu_at]
          by_cases e : c' = c
          · rw [if_pos ⟨rfl, e⟩, e, nup_e]
          · rw [if_neg (fun z => e z.2), nup_n _ _ e]; exact bW c' (by omega)
      · rw [nI_1] at ey
        subst ey
        have ne : tR V c w ≠ (n : Int) * co c + tR V (c + 1) (w - n * al c) := fun e => g (by
          rw [lg_eq]
          refine Int64.toInt_inj.mp ?_
          show (vv Y al c w n).toInt = _
          rw [hv, tcw, e])
        refine hk5 ?_ _ ⟨rfl, fun j hj => ?_⟩
        · refine Nat.lt_of_le_of_ne hn (fun e => ne ?_)
          rw [e]; exact m3
        · by_cases e : j = n
          · rw [e]; exact ne
          · exact hno j (by omega)
    · have j0 : j ≠ 0 := fun e => by
        subst e
        exact z2 (by decide)
      obtain ⟨c, rfl⟩ : ∃ c, j = c + 1 := ⟨j - 1, by omega⟩
      rw [nI_pred]
      have hcl : c < nc := by omega
      have ac := alp hcl
      have hvc : vp_in (nI c) 10 := vp_in_nI (by omega) (by omega)
      refine zl_up (l + 1) (fun w W => zK6 S T W ∧ tbl (tR W) nc l al hi co (c + 1) ∧ ∀ w2, w2 < w → klt (tR W (c + 1)) (al c) (hi c) (co c) w2 (tR W c w2)) (by omega) (fun w W k4 hw hJ4 hk4 => ?_) V ⟨kV, tV, fun w2 h => by omega⟩
      obtain ⟨kW, tW, rW⟩ := hJ4
      show X7_byRoom_B44 (nI c) (nI w) W Q k3 k4
      unfold X7_byRoom_B44
      rw [z0, rgt kW, nI_ltI (by omega) (by omega)]
      refine ⟨v0, fun z3 => ?_, fun z3 => ?_⟩
      · unfold X7_byRoom_b162
        intro y ey
        rw [← Int32.sub_eq_add_neg] at ey
        subst ey
        refine hk3 c rfl W ⟨kW, tW.1, fun c2 a b w2 hw2 => ?_⟩
        by_cases e : c2 = c
        · rw [e]; exact rW w2 (by omega)
        · exact tW.2 c2 (by omega) b w2 hw2
      · have hwl : w ≤ l := by omega
        refine zl_up2 (hi c + 1) (fun n m Y => Y = W ∧ (n = 0 → m = 1000000000000) ∧ (0 < n → ∃ n0 : Nat, n0 * al c ≤ w ∧ n0 ≤ hi c ∧ m.toInt = (n0 : Int) * co c + tR W (c + 1) (w - n0 * al c)) ∧ ∀ j : Nat, j < n → j * al c ≤ w → m.toInt ≤ (j : Int) * co c + tR W (c + 1) (w - j * al c)) (by omega) (fun n m Y k5 hn hJ5 hk5 => ?_) 1000000000000 W ⟨rfl, fun _ => rfl, fun h => absurd h (by omega), fun j hj => by omega⟩
        obtain ⟨rfl, m0, m1, m2⟩ := hJ5
        show X7_byRoom_B61 (nI c) (nI w) m (nI n) Y Q k3 k4 k5
        unfold X7_byRoom_B61
        have put : 0 < n → (∀ j, j ≤ hi c → j * al c ≤ w → j < n) → X7_byRoom_b143 (nI c) (nI w) m Y Q k3 k4 := by
          intro hn0 hall
          obtain ⟨n0, g1, g2, g3⟩ := m1 hn0
          unfold X7_byRoom_b143
          rw [ix_0, nI_clamp (by omega)]
          refine ⟨vp_in_nI (by omega) (by omega), fun Z eZ y ey => ?_⟩
          rw [nI_1] at ey
          subst ey
          have sm : ∀ c2, c2 ≠ c → ∀ w2, w2 ≤ 300 → tR Z c2 w2 = tR Y c2 w2 := fun c2 hc2 w2 hw2 => by
            unfold tR
            rw [eZ, zw_at, if_neg (by omega)]
          have same : ∀ w2, w2 ≠ w → w2 ≤ 300 → tR Z c w2 = tR Y c w2 := fun w2 e hw2 => by
            unfold tR
            rw [eZ, zw_at, if_neg (by omega)]
          have own : tR Z c w = m.toInt := by
            unfold tR
            rw [eZ, zw_at, if_pos ⟨rfl, rfl⟩]
          refine hk4 (by omega) Z ⟨by rw [eZ]; exact kW.w, ⟨fun w2 hw2 => by rw [sm nc (by omega) w2 (by omega)]; exact tW.1 w2 hw2, fun c2 a b w2 hw2 => ?_⟩, fun w2 hw2 => ?_⟩
          · rw [sm c2 (by omega) w2 (by omega)]
            exact klt_congr (fun i hi => (sm (c2 + 1) (by omega) i (by omega)).symm) (tW.2 c2 a b w2 hw2)
          · by_cases e : w2 = w
            · subst e
              rw [own]
              refine klt_congr (fun i hi => (sm (c + 1) (by omega) i (by omega)).symm) ⟨⟨n0, g2, g1, g3⟩, fun j j1 j2 => m2 j (hall j j1 j2) j2⟩
            · rw [same w2 e (by omega)]
              exact klt_congr (fun i hi => (sm (c + 1) (by omega) i (by omega)).symm) (rW w2 (by omega))
        rw [nI_clamp (by omega), hig kW hcl, nI_ltI (by omega) (by omega)]
        refine ⟨hvc, fun z4 => put (by omega) (fun j j1 _ => by omega), fun z4 => x7_coef (r := 0) (by omega) (by omega) ?_⟩
        have n1k : n ≤ 1000 := by omega
        have nab : n * al c ≤ 100000 := by
          have := Nat.mul_le_mul n1k ac.2.1
          omega
        rw [cof kW hcl, nI_mul, nI_ltI (by omega) (by omega)]
        refine ⟨fun z5 => put ?_ (fun j j1 j2 => ?_), fun z5 => ⟨hvc, x7_coef (r := 0) (by omega) (by omega) ?_⟩⟩
        · refine Nat.pos_of_ne_zero (fun e => ?_)
          subst e
          rw [Nat.zero_mul] at z5
          omega
        · refine Nat.lt_of_not_le (fun g => ?_)
          have := Nat.mul_le_mul_right (al c) g
          omega
        · have hna : n * al c ≤ w := by omega
          have hv := val kW tW hcl hwl hna
          rw [cof kW hcl, ix_1 hna, nI_clamp (by omega)]
          refine ⟨vp_in_nI (by omega) (by omega), fun v ev => ?_⟩
          have ev2 : v = vv Y al c w n := ev
          have ev3 : v.toInt = (n : Int) * co c + tR Y (c + 1) (w - n * al c) := by rw [ev2]; exact hv.1
          have nx : ∀ t : Int64, (∃ n0 : Nat, n0 * al c ≤ w ∧ n0 ≤ hi c ∧ t.toInt = (n0 : Int) * co c + tR Y (c + 1) (w - n0 * al c)) → (∀ j : Nat, j < n + 1 → j * al c ≤ w → t.toInt ≤ (j : Int) * co c + tR Y (c + 1) (w - j * al c)) → X7_byRoom_b136 (nI c) (nI w) (nI n) t Y Q k3 k4 k5 := by
            intro t ht ht2
            unfold X7_byRoom_b136
            intro y ey
            rw [nI_1] at ey
            subst ey
            exact hk5 (by omega) _ _ ⟨rfl, fun e => absurd e (by omega), fun _ => ht, ht2⟩
          refine ⟨fun g => ?_, fun g => nx v ⟨n, hna, by omega, ev3⟩ (fun j hj hja => ?_)⟩
          · rw [lg_ge] at g
            by_cases e : n = 0
            · rw [m0 e, far] at g
              omega
            · refine nx m (m1 (by omega)) (fun j hj hja => ?_)
              by_cases e2 : j = n
              · rw [e2]; omega
              · exact m2 j (by omega) hja
          · rw [lg_ge] at g
            by_cases e2 : j = n
            · rw [e2]; omega
            · have := m2 j (by omega) hja
              omega
  · rw [nI_1] at ew
    rw [nI_clamp (by omega)] at eV
    subst ew
    subst eV
    refine hk2 (by omega) _ ⟨kU.w, fun w hw => ?_⟩
    rw [zw_at]
    by_cases e : w = i
    · rw [if_pos ⟨rfl, by rw [e]⟩]
    · rw [if_neg (fun z => e (by omega))]; exact wU w (by omega)
